section
variable {th sz S pr pl ct st an rs rk : Int32} {ops xs ys zs N : Nat → Int32} {K : Nat → Int64} {ht ts tc se sd kn cv ca cb cs co : Nat → Int32}
theorem jx_runCode {post : SX → Prop} {c : Nat} {k v a b : Int32} (hc : c < 768) (ek : kn c = k) (ev : cv c = v) (ea : ca c = a) (eb : cb c = b) (k8 : ¬ k = 8) (hk : jt_cok k v a b) (hp : jt_pr pr) (h : post (th, sz, S, (jt_ca k v a b (N, K, pr)).2.2, pl, ct, st, an, rs, rk, ops, xs, ys, zs, (jt_ca k v a b (N, K, pr)).1, (jt_ca k v a b (N, K, pr)).2.1, ht, ts, tc, se, sd, kn, cv, ca, cb, cs, co)) : wpX_runCode post (th, sz, S, pr, pl, ct, st, an, rs, rk, ops, xs, ys, zs, N, K, ht, ts, tc, se, sd, kn, cv, ca, cb, cs, co) (nI c) := by
  have hin : vp_in (nI c) 768 := vp_in_nI hc (by omega)
  have e : (nI c).toNatClampNeg = c := nI_clamp (by omega)
  have ek' : kn (nI c).toNatClampNeg = k := by rw [e]; exact ek
  have ev' : cv (nI c).toNatClampNeg = v := by rw [e]; exact ev
  have ea' : ca (nI c).toNatClampNeg = a := by rw [e]; exact ea
  have eb' : cb (nI c).toNatClampNeg = b := by rw [e]; exact eb
  obtain ⟨hv, hk⟩ := hk
  have iv := jt_vr_in hv
  unfold wpX_runCode
  refine ⟨hin, nm_r ev' ⟨hin, nm_r ea' ⟨hin, nm_r eb' ⟨hin, nm_r ek' ?_⟩⟩⟩⟩
  rcases hk with rfl | ⟨rfl, ha⟩ | ⟨rfl, ha, hb⟩ | ⟨rfl, ha, hb⟩ | ⟨rfl, ha, hb⟩ | ⟨rfl, ha, hb⟩ | ⟨rfl, ha, hb⟩ | rfl | rfl
  · rw [jt_ca_0] at h
    exact br_f (by decide) (br_f (by decide) (br_t rfl (⟨iv, nm_e h⟩)))
  · rw [jt_ca_1] at h
    exact br_f (by decide) (br_f (by decide) (br_f (by decide) (br_t rfl (⟨jt_vr_in ha, iv, nm_e h⟩))))
  · rw [jt_ca_2] at h
    exact br_f (by decide) (br_f (by decide) (br_f (by decide) (br_f (by decide) (br_t rfl (⟨jt_vr_in ha, jt_vr_in hb, iv, nm_e h⟩)))))
  · rw [jt_ca_3] at h
    exact br_f (by decide) (br_f (by decide) (br_f (by decide) (br_f (by decide) (br_f (by decide) (br_t rfl (⟨jt_vr_in ha, jt_vr_in hb, iv, nm_e h⟩))))))
  · rw [jt_ca_4] at h
    exact br_f (by decide) (br_f (by decide) (br_f (by decide) (br_f (by decide) (br_f (by decide) (br_f (by decide) (br_t rfl (⟨jt_vr_in ha, jt_vr_in hb, iv, nm_e h⟩)))))))
  · rw [jt_ca_5] at h
    refine br_f (by decide) (br_f (by decide) (br_f (by decide) (br_f (by decide) (br_f (by decide) (br_f (by decide) (br_f (by decide) (br_t rfl (⟨jt_vr_in ha, jt_vr_in hb, ?_⟩))))))))
    by_cases d : N b.toNatClampNeg ≤ N a.toNatClampNeg
    · rw [if_neg (Int32.not_lt.mpr d)] at h
      exact br_t d ⟨iv, nm_e h⟩
    · rw [if_pos (Int32.not_le.mp d)] at h
      exact br_f d ⟨iv, nm_e h⟩
  · rw [jt_ca_6] at h
    refine br_f (by decide) (br_f (by decide) (br_f (by decide) (br_f (by decide) (br_f (by decide) (br_f (by decide) (br_f (by decide) (br_f (by decide) (br_t rfl (⟨jt_vr_in ha, jt_vr_in hb, ?_⟩)))))))))
    by_cases d : N a.toNatClampNeg = N b.toNatClampNeg
    · rw [if_pos d] at h
      exact br_t d ⟨iv, nm_e h⟩
    · rw [if_neg d] at h
      exact br_f d ⟨iv, nm_e h⟩
  · rw [jt_ca_7] at h
    exact br_f (by decide) (br_t (by decide) (jx_print hv hp h))
  · exact absurd rfl k8
theorem jt_ca_pr {k v a b : Int32} {g : jt_G} (h : jt_pr g.2.2) : jt_pr (jt_ca k v a b g).2.2 := by
  unfold jt_ca
  by_cases c0 : k = 0
  · rw [if_pos c0]; exact h
  rw [if_neg c0]
  by_cases c1 : k = 1
  · rw [if_pos c1]; exact h
  rw [if_neg c1]
  by_cases c2 : k = 2
  · rw [if_pos c2]; exact h
  rw [if_neg c2]
  by_cases c3 : k = 3
  · rw [if_pos c3]; exact h
  rw [if_neg c3]
  by_cases c4 : k = 4
  · rw [if_pos c4]; exact h
  rw [if_neg c4]
  by_cases c5 : k = 5
  · rw [if_pos c5]; exact h
  rw [if_neg c5]
  by_cases c6 : k = 6
  · rw [if_pos c6]; exact h
  rw [if_neg c6]
  exact jt_pI_ok h
/-- the codes of a trace, run one by one -/
theorem jx_trace {post : Int32 → SX → Prop} {t m : Nat} {g0 : jt_G} (ht' : t < 24) (hm : m ≤ 32) (hc : jt_Ck (kn, cv, ca, cb, cs, co) (32 * t) m)
    (kN : ∀ (N' : Nat → Int32) (K' : Nat → Int64) (pr' : Int32), jt_rc (kn, cv, ca, cb, cs, co) (32 * t) m g0 = ((N', K', pr'), none) → post (ts t) (th, sz, sd t, pr', nI t, ct + ts t, st, an, rs, rk, ops, xs, ys, zs, N', K', ht, ts, tc, se, sd, kn, cv, ca, cb, cs, co))
    (kS : ∀ (c : Nat) (N' : Nat → Int32) (K' : Nat → Int64) (pr' : Int32), jt_rc (kn, cv, ca, cb, cs, co) (32 * t) m g0 = ((N', K', pr'), some c) → post (cs c) (th, sz, co c, pr', cb c, ct + cs c, st, an, rs, rk, ops, xs, ys, zs, N', K', ht, ts, tc, se, sd, kn, cv, ca, cb, cs, co)) :
    ∀ (d i n : Nat) (N' : Nat → Int32) (K' : Nat → Int64) (pr' : Int32), i + d = m → d < n → jt_pr pr' → jt_rc (kn, cv, ca, cb, cs, co) (32 * t) i g0 = ((N', K', pr'), none) → wX_runTrace_17 post (nI t) (nI (32 * t + m)) n (nI (32 * t + i)) th sz S pr' pl ct st an rs rk ops xs ys zs N' K' ht ts tc se sd kn cv ca cb cs co := by
  have et : (nI t).toNatClampNeg = t := nI_clamp (by omega)
  have hit : vp_in (nI t) 24 := vp_in_nI ht' (by omega)
  intro d
  induction d with
  | zero =>
    intro i n N' K' pr' hd hn hp hr
    obtain ⟨n, rfl⟩ : ∃ n', n = n' + 1 := ⟨n - 1, by omega⟩
    rw [wX_runTrace_17]
    have ei : i = m := by omega
    subst ei
    refine br_t (nI_le (Nat.le_refl _) (by omega)) ⟨hit, hit, ?_⟩
    rw [et]
    unfold wpX_leaveTrace
    exact nm_e (kN N' K' pr' hr)
  | succ d ih =>
    intro i n N' K' pr' hd hn hp hr
    obtain ⟨n, rfl⟩ : ∃ n', n = n' + 1 := ⟨n - 1, by omega⟩
    rw [wX_runTrace_17]
    have ec : (nI (32 * t + i)).toNatClampNeg = 32 * t + i := nI_clamp (by omega)
    have hin : vp_in (nI (32 * t + i)) 768 := vp_in_nI (by omega) (by omega)
    refine br_f (nI_ge (by omega) (by omega)) ⟨hin, ?_⟩
    rw [ec]
    have ck := hc (32 * t + i) (by omega) (by omega)
    have hr' := jt_rc_n hr
    unfold jt_c1 at hr'
    dsimp only at hr' ck
    by_cases c8 : kn (32 * t + i) = 8
    · rw [if_pos c8] at hr'
      refine br_t c8 ⟨hin, jt_vr_in ck.1, hin, ?_⟩
      by_cases c : N' (cv (32 * t + i)).toNatClampNeg = ca (32 * t + i)
      · rw [if_pos c] at hr'
        refine br_t c (nm_r (nI_1 _) ?_)
        exact ih (i + 1) n N' K' pr' (by omega) (by omega) hp hr'
      · rw [if_neg c] at hr'
        have hs := jt_rc_stay hr' d
        rw [show i + 1 + d = m from by omega] at hs
        refine br_f c ⟨hin, hin, hin, ?_⟩
        unfold wpX_leaveTrace
        exact nm_e (kS _ N' K' pr' hs)
    · rw [if_neg c8] at hr'
      refine br_f c8 (jx_runCode (by omega) rfl rfl rfl rfl c8 ck hp (nm_r (nI_1 _) ?_))
      exact ih (i + 1) n _ _ _ (by omega) (by omega) (jt_ca_pr hp) hr'
theorem jx_runTrace {post : Int32 → SX → Prop} {t l : Nat} (ht' : t < 24) (hl : l < 2 ^ 31) (hle : ¬ nI l < ts t) (hT : jt_T1 (ops, xs, ys, zs, sz) (kn, cv, ca, cb, cs, co) t (ts t) (tc t) S (sd t)) (ok : jt_ok (S, (N, K, pr), nI t, ct))
    (k : ∀ (q : Nat) (S' : Int32) (N' : Nat → Int32) (K' : Nat → Int64) (pr' pl' : Int32), 1 ≤ q → q ≤ l → jt_it (ops, xs, ys, zs, sz) q (S, (N, K, pr), nI t, ct) = some (S', (N', K', pr'), pl', ct + nI q) → post (nI q) (th, sz, S', pr', pl', ct + nI q, st, an, rs, rk, ops, xs, ys, zs, N', K', ht, ts, tc, se, sd, kn, cv, ca, cb, cs, co)) : wpX_runTrace post (th, sz, S, pr, nI t, ct, st, an, rs, rk, ops, xs, ys, zs, N, K, ht, ts, tc, se, sd, kn, cv, ca, cb, cs, co) (nI t) := by
  obtain ⟨j, m, e1, e2, j1, j32, mj, hc, hS⟩ := hT
  have et : (nI t).toNatClampNeg = t := nI_clamp (by omega)
  have hit : vp_in (nI t) 24 := vp_in_nI ht' (by omega)
  have eb : nI t * 32 = nI (32 * t + 0) := by
    have e1 : nI t * 32 = nI (t * 32) := pk_mul t 32
    rw [e1, Nat.mul_comm, Nat.add_zero]
  have ee : nI (32 * t + 0) + tc (nI t).toNatClampNeg = nI (32 * t + m) := by rw [et, e2, nI_add, Nat.add_zero]
  rw [e1, nI_ltI hl (by omega)] at hle
  obtain ⟨hn, hs⟩ := hS (N, K, pr) ct ok
  unfold wpX_runTrace
  refine nm_r eb ⟨hit, nm_r ee ⟨m + 1, ?_⟩⟩
  refine jx_trace (g0 := (N, K, pr)) ht' (by omega) hc ?_ ?_ m 0 (m + 1) N K pr (by omega) (by omega) ok.2.2 rfl
  · intro N' K' pr' hr
    have := k j (sd t) N' K' pr' (nI t) j1 (by omega) (hn _ hr)
    rw [e1]
    exact this
  · intro c N' K' pr' hr
    obtain ⟨q, q1, qj, eq, hi⟩ := hs _ c hr
    have := k q (co c) N' K' pr' (cb c) q1 (by omega) hi
    have eq' : cs c = nI q := eq
    rw [eq']
    exact this
theorem jx_hasTrace {post : Int32 → Prop} {l : Int32} (hP : jt_Pok (ops, xs, ys, zs, sz)) (hpl : jt_pl pl) (k0 : post 0) (k1 : ∀ t, t < 24 → pl = nI t → ¬ ts t = 0 → ¬ l < ts t → se t = S → post 1) : wpX_hasTrace post (th, sz, S, pr, pl, ct, st, an, rs, rk, ops, xs, ys, zs, N, K, ht, ts, tc, se, sd, kn, cv, ca, cb, cs, co) l := by
  unfold wpX_hasTrace
  by_cases h : sz ≤ pl
  · exact br_t h k0
  · obtain ⟨t, ht', e, et, _⟩ := jt_at hP hpl h
    have hit : vp_in pl 24 := by rw [e]; exact vp_in_nI ht' (by omega)
    refine br_f h ⟨hit, ?_⟩
    rw [et]
    refine br_c (fun _ => k0) (fun h0 => ⟨hit, br_c (fun _ => k0) (fun hl => ⟨hit, br_c (fun hs => k1 t ht' e h0 hl hs) (fun _ => k0)⟩)⟩)
/-- one turn of run's loop: some steps of the pure machine, or its end -/
theorem jx_advance {post : Int32 → SX → Prop} {l : Nat} (hl1 : 1 ≤ l) (hl : l < 2 ^ 31) (hP : jt_Pok (ops, xs, ys, zs, sz)) (ok : jt_ok (S, (N, K, pr), pl, ct)) (hT : jt_Tok (ops, xs, ys, zs, sz) (kn, cv, ca, cb, cs, co) ts tc se sd) (hR : jt_Rec (ops, xs, ys, zs, sz) (kn, cv, ca, cb, cs, co) ts se an rs rk pl S)
    (kA : ∀ (q : Nat) (S' pr' pl' ct' an' rs' rk' : Int32) (N' : Nat → Int32) (K' : Nat → Int64) (ht' ts' tc' se' sd' kn' cv' ca' cb' cs' co' : Nat → Int32), 1 ≤ q → q ≤ l → jt_it (ops, xs, ys, zs, sz) q (S, (N, K, pr), pl, ct) = some (S', (N', K', pr'), pl', ct') → jt_Tok (ops, xs, ys, zs, sz) (kn', cv', ca', cb', cs', co') ts' tc' se' sd' → jt_Rec (ops, xs, ys, zs, sz) (kn', cv', ca', cb', cs', co') ts' se' an' rs' rk' pl' S' → post (nI q) (th, sz, S', pr', pl', ct', 0, an', rs', rk', ops, xs, ys, zs, N', K', ht', ts', tc', se', sd', kn', cv', ca', cb', cs', co'))
    (kC : ∀ s, ¬ s = 0 → jt_sp (ops, xs, ys, zs, sz) (S, (N, K, pr), pl, ct) = .inr s → post 1 (th, sz, S, pr, pl, ct, s, an, rs, rk, ops, xs, ys, zs, N, K, ht, ts, tc, se, sd, kn, cv, ca, cb, cs, co)) : wpX_advance post (th, sz, S, pr, pl, ct, 0, an, rs, rk, ops, xs, ys, zs, N, K, ht, ts, tc, se, sd, kn, cv, ca, cb, cs, co) (nI l) := by
  have k25 : wX_advance_25 post th sz S pr pl ct 0 an rs rk ops xs ys zs N K ht ts tc se sd kn cv ca cb cs co := by
    unfold wX_advance_25
    refine jx_doStep hP ok (fun s s0 hs => ?_) (fun i op x y z hi e hz eo ex ey ez hio hf hsp => ?_)
    · refine br_f s0 ?_
      unfold wX_advance_63
      exact br_f s0 (kC s s0 hs)
    · have hit1 : jt_it (ops, xs, ys, zs, sz) 1 (S, (N, K, pr), pl, ct) = some (jt_eS op x y z S, (jt_eN op x y z S N, jt_eK op x S pr N K, jt_eP op pr), jt_eL op x y pl S N, ct + 1) := jt_it_c (j := 0) rfl hsp
      refine br_t rfl ?_
      rcases hR with ra | ⟨t, j, m, ht', rfl, rfl, rfl, h0, hj, hm, hc, hS⟩
      · refine br_t ra ?_
        unfold wX_advance_63
        refine br_t rfl (br_c (fun _ => ?_) (fun hw => ?_))
        · exact kA 1 _ _ _ _ _ _ _ _ _ _ _ _ _ _ _ _ _ _ _ _ (by omega) hl1 hit1 hT (Or.inl ra)
        · have hpl := jt_ex_pl (S := S) (N := N) hi hio
          rw [← e] at hpl
          obtain ⟨t, t24, et⟩ := hpl
          have tl : t ≤ i := by
            rw [e] at hw et
            rw [et] at hw
            have := mt (nI_ltI (a := i) (b := t) (by omega) (by omega)).mpr hw
            omega
          rw [et]
          refine jx_warm (t := t) (by omega) hT ra (fun an' rs' rk' ht' ts' se' hT' hR' => ?_)
          refine kA 1 _ _ _ _ _ _ _ _ _ _ _ _ _ _ _ _ _ _ _ _ (by omega) hl1 ?_ hT' hR'
          rw [hit1, et]
      · have na : ¬ nI t = -1 := by
          intro hh
          have h1 : ¬ nI t < 0 := nI_pos (by omega)
          rw [hh] at h1
          exact h1 (by decide)
        refine br_f na ?_
        subst e
        refine jx_noteStep hP hi hz eo ex ey ez hio hf ok.1 rfl rfl rfl hT ht' h0 hj hm hc hS (fun an' rs' rk' ts' tc' sd' kn' cv' ca' cb' cs' co' hT' hR' => ?_)
        exact kA 1 _ _ _ _ _ _ _ _ _ _ _ _ _ _ _ _ _ _ _ _ (by omega) hl1 hit1 hT' hR'
  unfold wpX_advance
  refine br_c (fun ra => ?_) (fun _ => k25)
  refine jx_hasTrace hP ok.2.1 (br_t rfl k25) (fun t ht' e h0 hlt hs => ?_)
  refine br_f (by decide) ?_
  subst e
  have h1 := hT t ht' h0
  rw [hs] at h1
  refine jx_runTrace ht' hl hlt h1 ok (fun q S' N' K' pr' pl' q1 ql hi => ?_)
  exact kA q _ _ _ _ _ _ _ _ _ _ _ _ _ _ _ _ _ _ _ _ q1 ql hi hT (Or.inl ra)
theorem jx_exit {post : Int32 → SX → Prop} {n l i : Nat} (hl : l < 2 ^ 31) (h : ¬ st = 0 ∨ l = 0) (k : post st (th, sz, S, pr, pl, ct, st, -1, rs, rk, ops, xs, ys, zs, N, K, ht, ts, tc, se, sd, kn, cv, ca, cb, cs, co)) : wX_run_11 post (n + 1) (nI l) (nI i) th sz S pr pl ct st an rs rk ops xs ys zs N K ht ts tc se sd kn cv ca cb cs co := by
  rw [wX_run_11]
  refine br_c (fun _ => k) (fun _ => br_c (fun _ => k) (fun hn => br_c (fun hs => ?_) (fun _ => k)))
  rcases h with h | rfl
  · exact absurd hs h
  · exact absurd (nI_le (Nat.le_refl 0) (by omega)) hn
/-- run's loop is the pure run -/
theorem jx_loop {post : Int32 → SX → Prop} (hP : jt_Pok (ops, xs, ys, zs, sz)) : ∀ (n l i : Nat) (S pr pl ct an rs rk : Int32) (N : Nat → Int32) (K : Nat → Int64) (ht ts tc se sd kn cv ca cb cs co : Nat → Int32), l < n → i + l ≤ 300 → jt_ok (S, (N, K, pr), pl, ct) → jt_Tok (ops, xs, ys, zs, sz) (kn, cv, ca, cb, cs, co) ts tc se sd → jt_Rec (ops, xs, ys, zs, sz) (kn, cv, ca, cb, cs, co) ts se an rs rk pl S →
    (∀ (S' pr' pl' ct' st' rs' rk' : Int32) (N' : Nat → Int32) (K' : Nat → Int64) (ht' ts' tc' se' sd' kn' cv' ca' cb' cs' co' : Nat → Int32), jt_rs (ops, xs, ys, zs, sz) l (S, (N, K, pr), pl, ct) = ((S', (N', K', pr'), pl', ct'), st') → jt_Tok (ops, xs, ys, zs, sz) (kn', cv', ca', cb', cs', co') ts' tc' se' sd' → post st' (th, sz, S', pr', pl', ct', st', -1, rs', rk', ops, xs, ys, zs, N', K', ht', ts', tc', se', sd', kn', cv', ca', cb', cs', co')) →
    wX_run_11 post n (nI l) (nI i) th sz S pr pl ct 0 an rs rk ops xs ys zs N K ht ts tc se sd kn cv ca cb cs co := by
  intro n
  induction n with
  | zero => intro l i S pr pl ct an rs rk N K ht ts tc se sd kn cv ca cb cs co h; omega
  | succ n ih =>
    intro l i S pr pl ct an rs rk N K ht ts tc se sd kn cv ca cb cs co hn hil ok hT hR k
    by_cases l0 : l = 0
    · subst l0
      exact jx_exit (by omega) (Or.inr rfl) (k _ _ _ _ _ _ _ _ _ _ _ _ _ _ _ _ _ _ _ _ rfl hT)
    · rw [wX_run_11]
      refine br_f (nI_ge (b := 300) (by omega) (by omega)) (br_f (nI_nle (by omega) (by omega)) (br_t rfl ?_))
      refine jx_advance (by omega) (by omega) hP ok hT hR ?_ ?_
      · intro q S' pr' pl' ct' an' rs' rk' N' K' ht' ts' tc' se' sd' kn' cv' ca' cb' cs' co' q1 ql hi hT' hR'
        refine nm_r (pk_sub ql) (nm_r (nI_1 i) ?_)
        refine ih (l - q) (i + 1) _ _ _ _ _ _ _ _ _ _ _ _ _ _ _ _ _ _ _ _ (by omega) (by omega) (jt_it_ok hP q _ _ ok hi) hT' hR' ?_
        intro S2 pr2 pl2 ct2 st2 rs2 rk2 N2 K2 ht2 ts2 tc2 se2 sd2 kn2 cv2 ca2 cb2 cs2 co2 hr2 hT2
        refine k _ _ _ _ _ _ _ _ _ _ _ _ _ _ _ _ _ _ _ _ ?_ hT2
        have := jt_rs_it q (l - q) _ _ hi
        rw [show q + (l - q) = l from by omega] at this
        rw [this]
        exact hr2
      · intro s s0 hs
        refine nm_r (pk_sub (a := l) (b := 1) (by omega)) (nm_r (nI_1 i) ?_)
        obtain ⟨n, rfl⟩ : ∃ n', n = n' + 1 := ⟨n - 1, by omega⟩
        refine jx_exit (by omega) (Or.inl s0) (k _ _ _ _ _ _ _ _ _ _ _ _ _ _ _ _ _ _ _ _ ?_ hT)
        obtain ⟨l, rfl⟩ : ∃ l', l = l' + 1 := ⟨l - 1, by omega⟩
        exact jt_rs_r l hs
end
