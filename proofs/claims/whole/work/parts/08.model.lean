section
variable {sz S pr pl ct st : Int32} {ops xs ys zs N Q : Nat → Int32} {K : Nat → Int64}
theorem jy_give {post : SY → Prop} {v s n : Int32} (hv : jt_vr v) (h : post (sz, pr, pl, ct, st, ops, xs, ys, zs, upd Q v.toNatClampNeg s, upd N v.toNatClampNeg n, K)) : wpY_give post (sz, pr, pl, ct, st, ops, xs, ys, zs, Q, N, K) v s n := by
  unfold wpY_give
  exact ⟨jt_vr_in hv, nm_e ⟨jt_vr_in hv, nm_e h⟩⟩
theorem jy_typed1 {post : Int32 → Prop} {p : Int32} (h4 : ¬ p < 4) (h7 : ¬ 7 < p) (h : post 1) : wpY_typed post (sz, pr, pl, ct, st, ops, xs, ys, zs, Q, N, K) p := by
  unfold wpY_typed
  exact br_f h4 (br_f h7 h)
theorem jy_typed0 {post : Int32 → Prop} {p : Int32} (h7 : p < 4 ∨ 7 < p) (h : post 0) : wpY_typed post (sz, pr, pl, ct, st, ops, xs, ys, zs, Q, N, K) p := by
  unfold wpY_typed
  rcases h7 with h7 | h7
  · exact br_t h7 h
  · exact br_c (fun _ => h) (fun _ => br_t h7 h)
theorem jy_f57 {post : Int32 → Prop} {i : Nat} {op a b : Int32} (hi : i < 24) (eo : ops i = op) (k1 : ¬ (op = 4 ∧ a = 2 ∧ b = 2) → post 1) (k0 : op = 4 ∧ a = 2 ∧ b = 2 → post 0) : wY_faults_57 post (nI i) a b sz pr pl ct st ops xs ys zs Q N K := by
  have hin : vp_in (nI i) 24 := vp_in_nI hi (by omega)
  have eo' : ops (nI i).toNatClampNeg = op := by rw [nI_clamp (by omega)]; exact eo
  unfold wY_faults_57
  rw [eo']
  exact ⟨hin, br_c (fun h4 => br_c (fun ha => br_c (fun hb => k0 ⟨h4, ha, hb⟩) (fun hb => k1 (fun c => hb c.2.2))) (fun ha => k1 (fun c => ha c.2.1))) (fun h4 => k1 (fun c => h4 c.1))⟩
theorem jy_f456 {post : Int32 → Prop} {i : Nat} {op y z : Int32} (hi : i < 24) (eo : ops i = op) (ey : ys i = y) (ez : zs i = z) (ho : op = 4 ∨ op = 5 ∨ op = 6) (hy : jt_vr y) (hz : jt_vr z) (hQ : jt_Q Q S) (k1 : jt_fl op y z S → post 1) (k0 : ¬ jt_fl op y z S → post 0) : wpY_faults post (sz, pr, pl, ct, st, ops, xs, ys, zs, Q, N, K) (nI i) := by
  have hin : vp_in (nI i) 24 := vp_in_nI hi (by omega)
  have e : (nI i).toNatClampNeg = i := nI_clamp (by omega)
  have eo' : ops (nI i).toNatClampNeg = op := by rw [e]; exact eo
  have ey' : ys (nI i).toNatClampNeg = y := by rw [e]; exact ey
  have ez' : zs (nI i).toNatClampNeg = z := by rw [e]; exact ez
  have h4 : ¬ op < 4 := by rcases ho with rfl | rfl | rfl <;> decide
  have h6 : op ≤ 6 := by rcases ho with rfl | rfl | rfl <;> decide
  unfold wpY_faults
  refine ⟨hin, ?_⟩
  rw [eo', ey', ez']
  refine br_f h4 ⟨hin, br_t h6 ⟨hin, jt_vr_in hy, nm_r (jt_Q_at hQ hy) ⟨hin, jt_vr_in hz, nm_r (jt_Q_at hQ hz) ?_⟩⟩⟩
  by_cases ha : jt_so S y = 1
  · by_cases hb : jt_so S z = 1
    · exact br_t ha (br_t hb (k0 (fun f => f.2.1 ⟨ha, hb⟩)))
    · exact br_t ha (br_f hb (jy_f57 hi eo (fun n => k1 ⟨ho, fun c => hb c.2, n⟩) (fun n => k0 (fun f => f.2.2 n))))
  · exact br_f ha (jy_f57 hi eo (fun n => k1 ⟨ho, fun c => ha c.1, n⟩) (fun n => k0 (fun f => f.2.2 n)))
theorem jy_fno {post : Int32 → Prop} {i : Nat} {op : Int32} (hi : i < 24) (eo : ops i = op) (h : op < 4 ∨ (¬ op < 4 ∧ ¬ op ≤ 6)) (k0 : post 0) : wpY_faults post (sz, pr, pl, ct, st, ops, xs, ys, zs, Q, N, K) (nI i) := by
  have hin : vp_in (nI i) 24 := vp_in_nI hi (by omega)
  have eo' : ops (nI i).toNatClampNeg = op := by rw [nI_clamp (by omega)]; exact eo
  unfold wpY_faults
  refine ⟨hin, ?_⟩
  rw [eo']
  rcases h with h | ⟨h4, h6⟩
  · exact br_t h k0
  · exact br_f h4 ⟨hin, br_f h6 k0⟩
theorem jy_faults {post : Int32 → Prop} {i : Nat} {op x y z : Int32} (hi : i < 24) (eo : ops i = op) (ey : ys i = y) (ez : zs i = z) (h : jt_iok op x y z) (hQ : jt_Q Q S) (k1 : jt_fl op y z S → post 1) (k0 : ¬ jt_fl op y z S → post 0) : wpY_faults post (sz, pr, pl, ct, st, ops, xs, ys, zs, Q, N, K) (nI i) := by
  have kn : ¬ (op = 4 ∨ op = 5 ∨ op = 6) → post 0 := fun n => k0 (fun f => n f.1)
  rcases h with ⟨rfl, hx⟩ | ⟨rfl, hx⟩ | ⟨rfl, hx⟩ | ⟨rfl, hx, hy⟩ | ⟨rfl, hx, hy, hz⟩ | ⟨rfl, hx, hy, hz⟩ | ⟨rfl, hx, hy, hz⟩ | ⟨rfl, hx, hy, hz⟩ | ⟨rfl, hx, hy⟩ | ⟨rfl, hx⟩ | ⟨rfl, hx⟩
  · exact jy_fno hi eo (by decide) (kn (by decide))
  · exact jy_fno hi eo (by decide) (kn (by decide))
  · exact jy_fno hi eo (by decide) (kn (by decide))
  · exact jy_fno hi eo (by decide) (kn (by decide))
  · exact jy_f456 hi eo ey ez (by decide) hy hz hQ k1 k0
  · exact jy_f456 hi eo ey ez (by decide) hy hz hQ k1 k0
  · exact jy_f456 hi eo ey ez (by decide) hy hz hQ k1 k0
  · exact jy_fno hi eo (by decide) (kn (by decide))
  · exact jy_fno hi eo (by decide) (kn (by decide))
  · exact jy_fno hi eo (by decide) (kn (by decide))
  · exact jy_fno hi eo (by decide) (kn (by decide))
theorem jy_calc {post : SY → Prop} {i : Nat} {op x y z : Int32} (hi : i < 24) (eo : ops i = op) (ex : xs i = x) (ey : ys i = y) (ez : zs i = z) (ho : op = 4 ∨ op = 5 ∨ op = 6 ∨ op = 7) (hx : jt_vr x) (hy : jt_vr y) (hz : jt_vr z) (hf : ¬ jt_fl op y z S) (w : jt_wf S N) (hQ : jt_Q Q S) (k : ∀ Q', jt_Q Q' (jt_eS op x y z S) → post (sz, pr, pl, ct, st, ops, xs, ys, zs, Q', jt_eN op x y z S N, K)) : wpY_calculate post (sz, pr, pl, ct, st, ops, xs, ys, zs, Q, N, K) (nI i) := by
  have hin : vp_in (nI i) 24 := vp_in_nI hi (by omega)
  have e : (nI i).toNatClampNeg = i := nI_clamp (by omega)
  have eo' : ops (nI i).toNatClampNeg = op := by rw [e]; exact eo
  have ex' : xs (nI i).toNatClampNeg = x := by rw [e]; exact ex
  have ey' : ys (nI i).toNatClampNeg = y := by rw [e]; exact ey
  have ez' : zs (nI i).toNatClampNeg = z := by rw [e]; exact ez
  have qy := jt_Q_at hQ hy
  have qz := jt_Q_at hQ hz
  have k81 : (op = 4 → jt_so S y = 1) → wY_calculate_81 post (nI i) x y z (N y.toNatClampNeg) (N z.toNatClampNeg) sz pr pl ct st ops xs ys zs Q N K := by
    intro h1
    unfold wY_calculate_81
    rw [eo', qy, qz]
    rcases ho with rfl | rfl | rfl | rfl
    · rw [jt_eS_4, jt_eN_4, if_pos (h1 rfl), if_pos (h1 rfl)] at k
      exact ⟨hin, br_t rfl (jy_give hx (k _ (jt_Q_up hQ hx jt_sr1)))⟩
    · rw [jt_eS_5, jt_eN_5] at k
      exact ⟨hin, br_f (by decide) ⟨hin, br_t rfl (jy_give hx (k _ (jt_Q_up hQ hx jt_sr1)))⟩⟩
    · rw [jt_eS_6, jt_eN_6] at k
      refine ⟨hin, br_f (by decide) ⟨hin, br_f (by decide) ⟨hin, br_t rfl ?_⟩⟩⟩
      by_cases c : N z.toNatClampNeg ≤ N y.toNatClampNeg
      · rw [if_neg (Int32.not_lt.mpr c)] at k
        exact br_t c (jy_give hx (k _ (jt_Q_up hQ hx jt_sr2)))
      · rw [if_pos (Int32.not_le.mp c)] at k
        exact br_f c (jy_give hx (k _ (jt_Q_up hQ hx jt_sr2)))
    · rw [jt_eS_7, jt_eN_7] at k
      refine ⟨hin, br_f (by decide) ⟨hin, br_f (by decide) ⟨hin, br_f (by decide) ⟨jt_vr_in hy, jt_vr_in hz, ?_⟩⟩⟩⟩
      by_cases c : jt_so S y = jt_so S z
      · by_cases d : N y.toNatClampNeg = N z.toNatClampNeg
        · rw [if_pos ⟨c, d⟩] at k
          exact br_t c (br_t d (jy_give hx (k _ (jt_Q_up hQ hx jt_sr2))))
        · rw [if_neg (fun g => d g.2)] at k
          exact br_t c (br_f d (jy_give hx (k _ (jt_Q_up hQ hx jt_sr2))))
      · rw [if_neg (fun g => c g.1)] at k
        exact br_f c (jy_give hx (k _ (jt_Q_up hQ hx jt_sr2)))
  unfold wpY_calculate
  refine ⟨hin, nm_r ex' ⟨hin, nm_r ey' ⟨hin, nm_r ez' ⟨jt_vr_in hy, nm_e ⟨jt_vr_in hz, nm_e ⟨hin, ?_⟩⟩⟩⟩⟩⟩
  rw [eo']
  by_cases h4 : op = 4
  · refine br_t h4 ⟨jt_vr_in hy, ?_⟩
    rw [qy]
    subst h4
    rcases jt_nfl hf (Or.inl rfl) with ⟨a, b⟩ | ⟨_, a, b⟩
    · have n2 : ¬ jt_so S y = 2 := by rw [a]; decide
      exact br_f n2 (k81 (fun _ => a))
    · have n1 : ¬ jt_so S y = 1 := by rw [a]; decide
      rw [jt_eS_4, jt_eN_4, if_neg n1, if_neg n1] at k
      have va := jt_wf_at w hy
      have vb := jt_wf_at w hz
      rw [a] at va
      rw [b] at vb
      refine br_t a ?_
      rcases jt_orY (jt_vs2 va) (jt_vs2 vb) with ⟨o, g⟩ | ⟨o, g⟩
      · rw [o] at k
        exact br_f (Int32.not_le.mpr g) (jy_give hx (k _ (jt_Q_up hQ hx jt_sr2)))
      · rw [o] at k
        exact br_t (Int32.not_lt.mp g) (jy_give hx (k _ (jt_Q_up hQ hx jt_sr2)))
  · exact br_f h4 (k81 (fun h => absurd h h4))
theorem jy_execute {post : SY → Prop} {i q : Nat} {op x y z : Int32} (hi : i < 24) (eo : ops i = op) (ex : xs i = x) (ey : ys i = y) (ez : zs i = z) (h : jt_iok op x y z) (hf : ¬ jt_fl op y z S) (w : jt_wf S N) (hQ : jt_Q Q S) (hq : q + 1 < 2 ^ 31)
    (k : ∀ Q', jt_Q Q' (jt_eS op x y z S) → post (sz, jt_eP op (nI q), jt_eL op x y (nI i) S N, ct, st, ops, xs, ys, zs, Q', jt_eN op x y z S N, jt_eK op x S (nI q) N K)) : wpY_execute post (sz, nI q, nI i, ct, st, ops, xs, ys, zs, Q, N, K) (nI i) := by
  have hin : vp_in (nI i) 24 := vp_in_nI hi (by omega)
  have e : (nI i).toNatClampNeg = i := nI_clamp (by omega)
  have eo' : ops (nI i).toNatClampNeg = op := by rw [e]; exact eo
  have ex' : xs (nI i).toNatClampNeg = x := by rw [e]; exact ex
  have ey' : ys (nI i).toNatClampNeg = y := by rw [e]; exact ey
  have kc : (op = 4 ∨ op = 5 ∨ op = 6 ∨ op = 7) → jt_vr x → jt_vr y → jt_vr z → ∀ (J : SY → Prop), (∀ u, post u → J u) → wpY_calculate J (sz, nI q, nI i + 1, ct, st, ops, xs, ys, zs, Q, N, K) (nI i) := by
    intro ho hx hy hz J hJ
    refine jy_calc hi eo ex ey ez ho hx hy hz hf w hQ (fun Q' hQ' => hJ _ ?_)
    have := k Q' hQ'
    rcases ho with rfl | rfl | rfl | rfl
    · rw [jt_eP_4, jt_eL_4, jt_eK_4] at this; exact this
    · rw [jt_eP_5, jt_eL_5, jt_eK_5] at this; exact this
    · rw [jt_eP_6, jt_eL_6, jt_eK_6] at this; exact this
    · rw [jt_eP_7, jt_eL_7, jt_eK_7] at this; exact this
  unfold wpY_execute
  refine ⟨hin, nm_r ex' ⟨hin, nm_r ey' (nm_e ⟨hin, ?_⟩)⟩⟩
  rw [eo']
  rcases h with ⟨rfl, hx⟩ | ⟨rfl, hx⟩ | ⟨rfl, hx⟩ | ⟨rfl, hx, hy⟩ | ⟨rfl, hx, hy, hz⟩ | ⟨rfl, hx, hy, hz⟩ | ⟨rfl, hx, hy, hz⟩ | ⟨rfl, hx, hy, hz⟩ | ⟨rfl, hx, hy⟩ | ⟨rfl, hx⟩ | ⟨rfl, hx⟩
  · rw [jt_eS_0, jt_eP_0, jt_eL_0, jt_eN_0, jt_eK_0] at k
    exact br_t rfl (jy_give hx (k _ (jt_Q_up hQ hx jt_sr1)))
  · rw [jt_eS_1, jt_eP_1, jt_eL_1, jt_eN_1, jt_eK_1] at k
    refine br_f (by decide) ⟨hin, br_t rfl ?_⟩
    by_cases c : y = 0
    · rw [if_pos c] at k
      exact br_t c (jy_give hx (k _ (jt_Q_up hQ hx jt_sr2)))
    · rw [if_neg c] at k
      exact br_f c (jy_give hx (k _ (jt_Q_up hQ hx jt_sr2)))
  · rw [jt_eS_2, jt_eP_2, jt_eL_2, jt_eN_2, jt_eK_2] at k
    exact br_f (by decide) ⟨hin, br_f (by decide) ⟨hin, br_t rfl (jy_give hx (k _ (jt_Q_up hQ hx jt_sr0)))⟩⟩
  · rw [jt_eS_3, jt_eP_3, jt_eL_3, jt_eN_3, jt_eK_3] at k
    refine br_f (by decide) ⟨hin, br_f (by decide) ⟨hin, br_f (by decide) ⟨hin, br_t rfl ⟨jt_vr_in hy, jt_vr_in hy, jy_give hx ?_⟩⟩⟩⟩
    rw [jt_Q_at hQ hy]
    exact k _ (jt_Q_up hQ hx (jt_vs_sr (jt_wf_at w hy)))
  · exact br_f (by decide) ⟨hin, br_f (by decide) ⟨hin, br_f (by decide) ⟨hin, br_f (by decide) ⟨hin, jy_typed1 (by decide) (by decide) (br_f (by decide) (kc (by decide) hx hy hz _ (fun _ hu => hu)))⟩⟩⟩⟩
  · exact br_f (by decide) ⟨hin, br_f (by decide) ⟨hin, br_f (by decide) ⟨hin, br_f (by decide) ⟨hin, jy_typed1 (by decide) (by decide) (br_f (by decide) (kc (by decide) hx hy hz _ (fun _ hu => hu)))⟩⟩⟩⟩
  · exact br_f (by decide) ⟨hin, br_f (by decide) ⟨hin, br_f (by decide) ⟨hin, br_f (by decide) ⟨hin, jy_typed1 (by decide) (by decide) (br_f (by decide) (kc (by decide) hx hy hz _ (fun _ hu => hu)))⟩⟩⟩⟩
  · exact br_f (by decide) ⟨hin, br_f (by decide) ⟨hin, br_f (by decide) ⟨hin, br_f (by decide) ⟨hin, jy_typed1 (by decide) (by decide) (br_f (by decide) (kc (by decide) hx hy hz _ (fun _ hu => hu)))⟩⟩⟩⟩
  · rw [jt_eS_8, jt_eP_8, jt_eL_8, jt_eN_8, jt_eK_8] at k
    have k180 : post (sz, nI q, nI i + 1, ct, st, ops, xs, ys, zs, Q, N, K) → wY_execute_180 post (nI i) x sz (nI q) (nI i + 1) ct st ops xs ys zs Q N K := by
      intro hh
      unfold wY_execute_180
      rw [eo']
      exact ⟨hin, br_f (by decide) ⟨hin, br_f (by decide) hh⟩⟩
    refine br_f (by decide) ⟨hin, br_f (by decide) ⟨hin, br_f (by decide) ⟨hin, br_f (by decide) ⟨hin, jy_typed0 (by decide) (br_t rfl ⟨hin, ?_⟩)⟩⟩⟩⟩
    rw [jt_Q_at hQ hx]
    refine br_t rfl ⟨jt_vr_in hx, ?_⟩
    by_cases c : jt_so S x = 1
    · rw [if_neg (fun g => g.1 c)] at k
      exact br_t c (k180 (k _ hQ))
    · refine br_f c ⟨jt_vr_in hx, ?_⟩
      by_cases d : N x.toNatClampNeg = 0
      · rw [if_pos ⟨c, d⟩] at k
        exact br_t d (k _ hQ)
      · rw [if_neg (fun g => d g.2)] at k
        exact br_f d (k180 (k _ hQ))
  · rw [jt_eS_9, jt_eP_9, jt_eL_9, jt_eN_9, jt_eK_9] at k
    refine br_f (by decide) ⟨hin, br_f (by decide) ⟨hin, br_f (by decide) ⟨hin, br_f (by decide) ⟨hin, jy_typed0 (by decide) (br_t rfl ⟨hin, ?_⟩)⟩⟩⟩⟩
    refine br_f (by decide) ?_
    unfold wY_execute_180
    rw [eo']
    exact ⟨hin, br_t rfl (k _ hQ)⟩
  · rw [jt_eS_10, jt_eP_10, jt_eL_10, jt_eN_10, jt_eK_10, jt_pI_lt hq] at k
    have kk := k _ hQ
    unfold jt_pK at kk
    refine br_f (by decide) ⟨hin, br_f (by decide) ⟨hin, br_f (by decide) ⟨hin, br_f (by decide) ⟨hin, jy_typed0 (by decide) (br_t rfl ⟨hin, ?_⟩)⟩⟩⟩⟩
    refine br_f (by decide) ?_
    unfold wY_execute_180
    rw [eo', jt_Q_at hQ hx]
    refine ⟨hin, br_f (by decide) ⟨hin, br_t rfl ?_⟩⟩
    by_cases c : (24 : Int32) ≤ nI q
    · rw [if_neg (Int32.not_lt.mpr c)] at kk
      exact br_t c (nm_r (nI_1 q) kk)
    · rw [if_pos (Int32.not_le.mp c)] at kk
      have q24 : q < 24 := by
        have := mt (nI_leI (a := 24) (b := q) (by omega) (by omega)).mpr c
        omega
      exact br_f c ⟨jt_vr_in hx, jt_vr_in hx, vp_in_nI q24 (by omega), nm_e (nm_r (nI_1 q) kk)⟩
/-- the reference's step is the pure step -/
theorem jy_step {post : SY → Prop} {q : Nat} (hP : jt_Pok (ops, xs, ys, zs, sz)) (ok : jt_ok (S, (N, K, nI q), pl, ct)) (hQ : jt_Q Q S) (hq : q + 1 < 2 ^ 31)
    (kr : ∀ s, ¬ s = 0 → jt_sp (ops, xs, ys, zs, sz) (S, (N, K, nI q), pl, ct) = .inr s → post (sz, nI q, pl, ct, s, ops, xs, ys, zs, Q, N, K))
    (kl : ∀ (S' : Int32) (q' : Nat) (pl' ct' : Int32) (N' : Nat → Int32) (K' : Nat → Int64) (Q' : Nat → Int32), jt_sp (ops, xs, ys, zs, sz) (S, (N, K, nI q), pl, ct) = .inl (S', (N', K', nI q'), pl', ct') → jt_Q Q' S' → q' ≤ q + 1 → post (sz, nI q', pl', ct', 0, ops, xs, ys, zs, Q', N', K')) : wpY_step post (sz, nI q, pl, ct, 0, ops, xs, ys, zs, Q, N, K) := by
  unfold wpY_step
  refine br_t rfl ?_
  by_cases h : pl < sz
  · have h' : ¬ sz ≤ pl := Int32.not_le.mpr h
    obtain ⟨i, hi, e, ei, hio⟩ := jt_at hP ok.2.1 h'
    refine br_t h ?_
    subst e
    refine jy_faults hi rfl rfl rfl hio hQ (fun f => ?_) (fun f => ?_)
    · refine br_f (by decide) (kr 2 (by decide) (jt_sp_fault h' ?_))
      rw [ei]
      exact f
    · refine br_t rfl (jy_execute hi rfl rfl rfl rfl hio f ok.1 hQ hq (fun Q' hQ' => nm_e ?_))
      obtain ⟨q', hq', eq'⟩ := jt_eP_le (op := ops i) hq
      show post (sz, jt_eP (ops i) (nI q), jt_eL (ops i) (xs i) (ys i) (nI i) S N, ct + 1, 0, ops, xs, ys, zs, Q', jt_eN (ops i) (xs i) (ys i) (zs i) S N, jt_eK (ops i) (xs i) S (nI q) N K)
      rw [eq']
      refine kl _ q' _ _ _ _ Q' ?_ hQ' hq'
      rw [jt_sp_go h' (by rw [ei]; exact f), ei, ← eq']
      rfl
  · exact br_f h (kr 1 (by decide) (jt_sp_end (Int32.not_lt.mp h)))
theorem jy_stay {post : Int32 → SY → Prop} {T : Nat} (hT : T ≤ 300) (hs : ¬ st = 0) (h : post st (sz, pr, pl, ct, st, ops, xs, ys, zs, Q, N, K)) : ∀ (d n c : Nat), c + d = T → d < n → wY_run_25 post (nI T) n (nI c) sz pr pl ct st ops xs ys zs Q N K := by
  intro d
  induction d with
  | zero =>
    intro n c hc hn
    obtain ⟨n, rfl⟩ : ∃ n', n = n' + 1 := ⟨n - 1, by omega⟩
    rw [wY_run_25]
    exact br_t (nI_le (by omega) (by omega)) h
  | succ d ih =>
    intro n c hc hn
    obtain ⟨n, rfl⟩ : ∃ n', n = n' + 1 := ⟨n - 1, by omega⟩
    rw [wY_run_25]
    refine br_f (nI_ge (by omega) (by omega)) ?_
    unfold wpY_step
    exact br_f hs (nm_r (nI_1 c) (ih n (c + 1) (by omega) (by omega)))
/-- the reference's loop is the pure run -/
theorem jy_loop {post : Int32 → SY → Prop} {T : Nat} (hT : T ≤ 300) (hP : jt_Pok (ops, xs, ys, zs, sz)) : ∀ (d n c q : Nat) (S pl ct : Int32) (N : Nat → Int32) (K : Nat → Int64) (Q : Nat → Int32), c + d = T → d < n → jt_ok (S, (N, K, nI q), pl, ct) → jt_Q Q S → q + d < 2 ^ 31 →
    (∀ (S' : Int32) (q' : Nat) (pl' ct' st' : Int32) (N' : Nat → Int32) (K' : Nat → Int64) (Q' : Nat → Int32), jt_rs (ops, xs, ys, zs, sz) d (S, (N, K, nI q), pl, ct) = ((S', (N', K', nI q'), pl', ct'), st') → jt_Q Q' S' → q' ≤ q + d → post st' (sz, nI q', pl', ct', st', ops, xs, ys, zs, Q', N', K')) →
    wY_run_25 post (nI T) n (nI c) sz (nI q) pl ct 0 ops xs ys zs Q N K := by
  intro d
  induction d with
  | zero =>
    intro n c q S pl ct N K Q hc hn ok hQ hq k
    obtain ⟨n, rfl⟩ : ∃ n', n = n' + 1 := ⟨n - 1, by omega⟩
    rw [wY_run_25]
    exact br_t (nI_le (by omega) (by omega)) (k S q pl ct 0 N K Q rfl hQ (by omega))
  | succ d ih =>
    intro n c q S pl ct N K Q hc hn ok hQ hq k
    obtain ⟨n, rfl⟩ : ∃ n', n = n' + 1 := ⟨n - 1, by omega⟩
    rw [wY_run_25]
    refine br_f (nI_ge (by omega) (by omega)) ?_
    refine jy_step hP ok hQ (by omega) ?_ ?_
    · intro s s0 hs
      refine nm_r (nI_1 c) ?_
      exact jy_stay hT s0 (k S q pl ct s N K Q (jt_rs_r d hs) hQ (by omega)) d n (c + 1) (by omega) (by omega)
    · intro S' q' pl' ct' N' K' Q' hs hQ' hq'
      refine nm_r (nI_1 c) ?_
      refine ih n (c + 1) q' S' pl' ct' N' K' Q' (by omega) (by omega) (jt_sp_ok hP ok hs) hQ' (by omega) ?_
      intro S2 q2 pl2 ct2 st2 N2 K2 Q2 hr hQ2 hq2
      refine k S2 q2 pl2 ct2 st2 N2 K2 Q2 ?_ hQ2 (by omega)
      rw [jt_rs_l d hs]
      exact hr
end
