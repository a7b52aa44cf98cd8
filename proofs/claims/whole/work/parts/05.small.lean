section
variable {th sz S pr pl ct st an rs rk : Int32} {ops xs ys zs N : Nat → Int32} {K : Nat → Int64} {ht ts tc se sd kn cv ca cb cs co : Nat → Int32}
theorem jx_sortIn {post : Int32 → Prop} {p v : Int32} (h : post (jt_so p v)) : wpX_sortIn post p v := h
theorem jx_assign {post : SX → Prop} {v s n : Int32} (hv : jt_vr v) (h : post (th, sz, jt_as S v s, pr, pl, ct, st, an, rs, rk, ops, xs, ys, zs, upd N v.toNatClampNeg n, K, ht, ts, tc, se, sd, kn, cv, ca, cb, cs, co)) : wpX_assign post (th, sz, S, pr, pl, ct, st, an, rs, rk, ops, xs, ys, zs, N, K, ht, ts, tc, se, sd, kn, cv, ca, cb, cs, co) v s n := by
  unfold wpX_assign
  exact nm_r (e' := jt_as S v s) rfl ⟨jt_vr_in hv, nm_e h⟩
theorem jx_print32 {post : SX → Prop} (h : post (th, sz, S, jt_pI pr, pl, ct, st, an, rs, rk, ops, xs, ys, zs, N, K, ht, ts, tc, se, sd, kn, cv, ca, cb, cs, co)) : wX_print_32 post th sz S pr pl ct st an rs rk ops xs ys zs N K ht ts tc se sd kn cv ca cb cs co := by
  unfold wX_print_32
  unfold jt_pI at h
  by_cases c : 2147483647 ≤ pr
  · rw [if_neg (Int32.not_lt.mpr c)] at h
    exact br_t c h
  · rw [if_pos (Int32.not_le.mp c)] at h
    exact br_f c (nm_e h)
theorem jx_print {post : SX → Prop} {v s : Int32} (hv : jt_vr v) (hp : jt_pr pr) (h : post (th, sz, S, jt_pI pr, pl, ct, st, an, rs, rk, ops, xs, ys, zs, N, jt_pK K pr (N v.toNatClampNeg) s, ht, ts, tc, se, sd, kn, cv, ca, cb, cs, co)) : wpX_print post (th, sz, S, pr, pl, ct, st, an, rs, rk, ops, xs, ys, zs, N, K, ht, ts, tc, se, sd, kn, cv, ca, cb, cs, co) v s := by
  obtain ⟨q, hq, rfl⟩ := hp
  unfold wpX_print
  unfold jt_pK at h
  by_cases c : (24 : Int32) ≤ nI q
  · rw [if_neg (Int32.not_lt.mpr c)] at h
    exact br_t c (jx_print32 h)
  · rw [if_pos (Int32.not_le.mp c)] at h
    have q24 : q < 24 := by
      have := mt (nI_leI (a := 24) (b := q) (by omega) hq).mpr c
      omega
    exact br_f c ⟨jt_vr_in hv, vp_in_nI q24 (by omega), nm_e (jx_print32 h)⟩
theorem jx_mf88 {post : Int32 → Prop} {op x5 z0 : Int32} (k0 : ¬ x5 = 0 → post 0) (k1 : x5 = 0 → ¬ (op = 4 ∧ ¬ z0 = 0) → post 1) (k2 : x5 = 0 → op = 4 → ¬ z0 = 0 → post 0) : wX_mustFault_88 post op x5 z0 th sz S pr pl ct st an rs rk ops xs ys zs N K ht ts tc se sd kn cv ca cb cs co :=
  ⟨fun h => ⟨fun h4 => ⟨fun hz => k1 h (fun c => c.2 hz), fun hz => k2 h h4 hz⟩, fun h4 => k1 h (fun c => h4 c.1)⟩, k0⟩
theorem jx_mf70 {post : Int32 → Prop} {op a b z0 : Int32} (k0 : ¬ z0 = 0 → post 0) (k1 : z0 = 0 → ¬ (op = 4 ∧ a = 2 ∧ b = 2) → post 1) (k2 : z0 = 0 → op = 4 ∧ a = 2 ∧ b = 2 → post 0) : wX_mustFault_70 post op a b z0 th sz S pr pl ct st an rs rk ops xs ys zs N K ht ts tc se sd kn cv ca cb cs co :=
  ⟨fun ha => ⟨fun hb => jx_mf88 k0 (fun z n => k1 z (fun c => n ⟨c.1, by decide⟩)) (fun z h4 _ => k2 z ⟨h4, ha, hb⟩), fun hb => jx_mf88 k0 (fun z _ => k1 z (fun c => hb c.2.2)) (fun _ _ n => absurd rfl n)⟩, fun ha => jx_mf88 k0 (fun z _ => k1 z (fun c => ha c.2.1)) (fun _ _ n => absurd rfl n)⟩
theorem jx_mf25 {post : Int32 → Prop} {i : Nat} {op : Int32} (hi : i < 24) (ho : op = 4 ∨ op = 5 ∨ op = 6) (k1 : jt_fl op (ys i) (zs i) S → post 1) (k0 : ¬ jt_fl op (ys i) (zs i) S → post 0) : wX_mustFault_25 post (nI i) op th sz S pr pl ct st an rs rk ops xs ys zs N K ht ts tc se sd kn cv ca cb cs co := by
  have hin : vp_in (nI i) 24 := vp_in_nI hi (by omega)
  have e : (nI i).toNatClampNeg = i := nI_clamp (by omega)
  unfold wX_mustFault_25
  rw [e]
  refine ⟨hin, jx_sortIn ⟨hin, jx_sortIn ?_⟩⟩
  by_cases ha : jt_so S (ys i) = 1
  · by_cases hb : jt_so S (zs i) = 1
    · exact br_t ha (br_t hb (jx_mf70 (fun _ => k0 (fun f => f.2.1 ⟨ha, hb⟩)) (fun z => absurd z (by decide)) (fun z => absurd z (by decide))))
    · exact br_t ha (br_f hb (jx_mf70 (fun z => absurd rfl z) (fun _ n => k1 ⟨ho, fun c => hb c.2, n⟩) (fun _ n => k0 (fun f => f.2.2 n))))
  · exact br_f ha (jx_mf70 (fun z => absurd rfl z) (fun _ n => k1 ⟨ho, fun c => ha c.1, n⟩) (fun _ n => k0 (fun f => f.2.2 n)))
theorem jx_mustFault {post : Int32 → Prop} {i : Nat} {op : Int32} (hi : i < 24) (eo : ops i = op) (k1 : jt_fl op (ys i) (zs i) S → post 1) (k0 : ¬ jt_fl op (ys i) (zs i) S → post 0) : wpX_mustFault post (th, sz, S, pr, pl, ct, st, an, rs, rk, ops, xs, ys, zs, N, K, ht, ts, tc, se, sd, kn, cv, ca, cb, cs, co) (nI i) := by
  have hin : vp_in (nI i) 24 := vp_in_nI hi (by omega)
  have e : ops (nI i).toNatClampNeg = op := by rw [nI_clamp (by omega)]; exact eo
  unfold wpX_mustFault
  refine ⟨hin, nm_r e ?_⟩
  by_cases h4 : op = 4
  · exact br_t h4 (jx_mf25 hi (Or.inl h4) k1 k0)
  · by_cases h5 : op = 5
    · exact br_f h4 (br_t h5 (jx_mf25 hi (Or.inr (Or.inl h5)) k1 k0))
    · by_cases h6 : op = 6
      · exact br_f h4 (br_f h5 (br_t h6 (jx_mf25 hi (Or.inr (Or.inr h6)) k1 k0)))
      · exact br_f h4 (br_f h5 (br_f h6 (k0 (fun f => f.1.elim h4 (fun g => g.elim h5 h6)))))
theorem jx_combine {post : SX → Prop} {op v a b : Int32} (ho : op = 4 ∨ op = 5 ∨ op = 6 ∨ op = 7) (hv : jt_vr v) (ha : jt_vr a) (hb : jt_vr b) (k : post (th, sz, jt_eS op v a b S, pr, pl, ct, st, an, rs, rk, ops, xs, ys, zs, jt_eN op v a b S N, K, ht, ts, tc, se, sd, kn, cv, ca, cb, cs, co)) : wpX_combine post (th, sz, S, pr, pl, ct, st, an, rs, rk, ops, xs, ys, zs, N, K, ht, ts, tc, se, sd, kn, cv, ca, cb, cs, co) op v a b := by
  unfold wpX_combine
  refine ⟨jt_vr_in ha, nm_e ⟨jt_vr_in hb, nm_e (jx_sortIn (jx_sortIn ?_))⟩⟩
  rcases ho with rfl | rfl | rfl | rfl
  · rw [jt_eS_4, jt_eN_4] at k
    by_cases c : jt_so S a = 1
    · rw [if_pos c, if_pos c] at k
      exact br_t rfl (br_t c (jx_assign hv k))
    · rw [if_neg c, if_neg c] at k
      refine br_t rfl (br_f c ?_)
      unfold wX_combine_63
      exact br_t rfl (jx_assign hv k)
  · rw [jt_eS_5, jt_eN_5] at k
    refine br_f (by decide) ?_
    unfold wX_combine_63
    exact br_f (by decide) (br_t rfl (jx_assign hv k))
  · rw [jt_eS_6, jt_eN_6] at k
    refine br_f (by decide) ?_
    unfold wX_combine_63
    refine br_f (by decide) (br_f (by decide) (br_t rfl ?_))
    by_cases c : N b.toNatClampNeg ≤ N a.toNatClampNeg
    · rw [if_neg (Int32.not_lt.mpr c)] at k
      exact br_t c (jx_assign hv k)
    · rw [if_pos (Int32.not_le.mp c)] at k
      exact br_f c (jx_assign hv k)
  · rw [jt_eS_7, jt_eN_7] at k
    refine br_f (by decide) ?_
    unfold wX_combine_63
    refine br_f (by decide) (br_f (by decide) (br_f (by decide) ?_))
    by_cases c : jt_so S a = jt_so S b
    · by_cases d : N a.toNatClampNeg = N b.toNatClampNeg
      · rw [if_pos ⟨c, d⟩] at k
        exact br_t c (br_t d (jx_assign hv k))
      · rw [if_neg (fun z => d z.2)] at k
        exact br_t c (br_f d (jx_assign hv k))
    · rw [if_neg (fun z => c z.1)] at k
      exact br_f c (jx_assign hv k)
theorem jx_execute {post : SX → Prop} {i : Nat} {op x y z : Int32} (hi : i < 24) (eo : ops i = op) (ex : xs i = x) (ey : ys i = y) (ez : zs i = z) (h : jt_iok op x y z) (hp : jt_pr pr) (k : post (th, sz, jt_eS op x y z S, jt_eP op pr, jt_eL op x y (nI i) S N, ct, st, an, rs, rk, ops, xs, ys, zs, jt_eN op x y z S N, jt_eK op x S pr N K, ht, ts, tc, se, sd, kn, cv, ca, cb, cs, co)) : wpX_execute post (th, sz, S, pr, pl, ct, st, an, rs, rk, ops, xs, ys, zs, N, K, ht, ts, tc, se, sd, kn, cv, ca, cb, cs, co) (nI i) := by
  have hin : vp_in (nI i) 24 := vp_in_nI hi (by omega)
  have e : (nI i).toNatClampNeg = i := nI_clamp (by omega)
  have eo' : ops (nI i).toNatClampNeg = op := by rw [e]; exact eo
  have ex' : xs (nI i).toNatClampNeg = x := by rw [e]; exact ex
  have ey' : ys (nI i).toNatClampNeg = y := by rw [e]; exact ey
  have ez' : zs (nI i).toNatClampNeg = z := by rw [e]; exact ez
  have kc : ∀ v a : Int32, (op = 4 ∨ op = 5 ∨ op = 6 ∨ op = 7) → jt_vr x → jt_vr y → jt_vr z → wX_execute_205 post (nI i) x y th sz S pr (nI i + 1) ct st an rs rk ops xs ys zs N K ht ts tc se sd kn cv ca cb cs co := by
    intro _ _ ho hx hy hz
    unfold wX_execute_205
    rw [eo', ez']
    refine ⟨hin, hin, jx_combine ho hx hy hz ?_⟩
    rcases ho with rfl | rfl | rfl | rfl
    · rw [jt_eP_4, jt_eL_4, jt_eK_4] at k; exact k
    · rw [jt_eP_5, jt_eL_5, jt_eK_5] at k; exact k
    · rw [jt_eP_6, jt_eL_6, jt_eK_6] at k; exact k
    · rw [jt_eP_7, jt_eL_7, jt_eK_7] at k; exact k
  unfold wpX_execute
  refine ⟨hin, nm_r ex' ⟨hin, nm_r ey' (nm_e ⟨hin, nm_r eo' ?_⟩)⟩⟩
  rcases h with ⟨rfl, hx⟩ | ⟨rfl, hx⟩ | ⟨rfl, hx⟩ | ⟨rfl, hx, hy⟩ | ⟨rfl, hx, hy, hz⟩ | ⟨rfl, hx, hy, hz⟩ | ⟨rfl, hx, hy, hz⟩ | ⟨rfl, hx, hy, hz⟩ | ⟨rfl, hx, hy⟩ | ⟨rfl, hx⟩ | ⟨rfl, hx⟩
  · rw [jt_eS_0, jt_eP_0, jt_eL_0, jt_eN_0, jt_eK_0] at k
    exact br_f (by decide) (br_f (by decide) (br_t rfl (jx_assign hx k)))
  · rw [jt_eS_1, jt_eP_1, jt_eL_1, jt_eN_1, jt_eK_1] at k
    refine br_f (by decide) (br_f (by decide) (br_f (by decide) (br_t rfl (?_))))
    by_cases c : y = 0
    · rw [if_pos c] at k
      exact br_t c (jx_assign hx k)
    · rw [if_neg c] at k
      exact br_f c (jx_assign hx k)
  · rw [jt_eS_2, jt_eP_2, jt_eL_2, jt_eN_2, jt_eK_2] at k
    exact br_f (by decide) (br_f (by decide) (br_f (by decide) (br_f (by decide) (br_t rfl (jx_assign hx k)))))
  · rw [jt_eS_3, jt_eP_3, jt_eL_3, jt_eN_3, jt_eK_3] at k
    exact br_f (by decide) (br_f (by decide) (br_f (by decide) (br_f (by decide) (br_f (by decide) (br_t rfl (jx_sortIn ⟨jt_vr_in hy, jx_assign hx k⟩))))))
  · exact br_f (by decide) (br_f (by decide) (br_f (by decide) (br_f (by decide) (br_f (by decide) (br_f (by decide) (br_t rfl (kc 0 0 (by decide) hx hy hz)))))))
  · exact br_f (by decide) (br_f (by decide) (br_f (by decide) (br_f (by decide) (br_f (by decide) (br_f (by decide) (br_f (by decide) (br_t rfl (kc 0 0 (by decide) hx hy hz))))))))
  · exact br_f (by decide) (br_f (by decide) (br_f (by decide) (br_f (by decide) (br_f (by decide) (br_f (by decide) (br_f (by decide) (br_f (by decide) (br_t rfl (kc 0 0 (by decide) hx hy hz)))))))))
  · exact br_f (by decide) (br_f (by decide) (br_f (by decide) (br_f (by decide) (br_f (by decide) (br_f (by decide) (br_f (by decide) (br_f (by decide) (br_f (by decide) (br_t rfl (kc 0 0 (by decide) hx hy hz))))))))))
  · rw [jt_eS_8, jt_eP_8, jt_eL_8, jt_eN_8, jt_eK_8] at k
    refine br_f (by decide) (br_f (by decide) (br_f (by decide) (br_f (by decide) (br_f (by decide) (br_f (by decide) (br_f (by decide) (br_f (by decide) (br_f (by decide) (br_f (by decide) (br_t rfl (jx_sortIn ?_)))))))))))
    by_cases c : jt_so S x = 1
    · rw [if_neg (fun z => z.1 c)] at k
      exact br_t c k
    · refine br_f c ⟨jt_vr_in hx, ?_⟩
      by_cases d : N x.toNatClampNeg = 0
      · rw [if_pos ⟨c, d⟩] at k
        exact br_t d k
      · rw [if_neg (fun z => d z.2)] at k
        exact br_f d k
  · rw [jt_eS_9, jt_eP_9, jt_eL_9, jt_eN_9, jt_eK_9] at k
    exact br_f (by decide) (br_f (by decide) (br_f (by decide) (br_f (by decide) (br_f (by decide) (br_f (by decide) (br_f (by decide) (br_f (by decide) (br_f (by decide) (br_f (by decide) (br_f (by decide) (br_t rfl (k))))))))))))
  · rw [jt_eS_10, jt_eP_10, jt_eL_10, jt_eN_10, jt_eK_10] at k
    exact br_f (by decide) (br_f (by decide) (br_f (by decide) (br_f (by decide) (br_f (by decide) (br_f (by decide) (br_f (by decide) (br_f (by decide) (br_f (by decide) (br_f (by decide) (br_f (by decide) (br_f (by decide) (br_t rfl (jx_sortIn (jx_print hx hp k))))))))))))))
/-- doStep is the pure step -/
theorem jx_doStep {post : SX → Prop} (hP : jt_Pok (ops, xs, ys, zs, sz)) (ok : jt_ok (S, (N, K, pr), pl, ct))
    (kr : ∀ s, ¬ s = 0 → jt_sp (ops, xs, ys, zs, sz) (S, (N, K, pr), pl, ct) = .inr s → post (th, sz, S, pr, pl, ct, s, an, rs, rk, ops, xs, ys, zs, N, K, ht, ts, tc, se, sd, kn, cv, ca, cb, cs, co))
    (kl : ∀ i op x y z, i < 24 → pl = nI i → ¬ sz ≤ pl → ops i = op → xs i = x → ys i = y → zs i = z → jt_iok op x y z → ¬ jt_fl op y z S → jt_sp (ops, xs, ys, zs, sz) (S, (N, K, pr), pl, ct) = .inl (jt_eS op x y z S, (jt_eN op x y z S N, jt_eK op x S pr N K, jt_eP op pr), jt_eL op x y pl S N, ct + 1) → post (th, sz, jt_eS op x y z S, jt_eP op pr, jt_eL op x y pl S N, ct + 1, st, an, rs, rk, ops, xs, ys, zs, jt_eN op x y z S N, jt_eK op x S pr N K, ht, ts, tc, se, sd, kn, cv, ca, cb, cs, co)) : wpX_doStep post (th, sz, S, pr, pl, ct, st, an, rs, rk, ops, xs, ys, zs, N, K, ht, ts, tc, se, sd, kn, cv, ca, cb, cs, co) := by
  unfold wpX_doStep
  by_cases h : pl < sz
  · have h' : ¬ sz ≤ pl := Int32.not_le.mpr h
    obtain ⟨i, hi, e, ei, hio⟩ := jt_at hP ok.2.1 h'
    refine br_t h ?_
    subst e
    refine jx_mustFault hi rfl (fun f => ?_) (fun f => ?_)
    · refine br_f (by decide) (kr 2 (by decide) (jt_sp_fault h' ?_))
      rw [ei]
      exact f
    · refine br_t rfl (jx_execute hi rfl rfl rfl rfl hio ok.2.2 (nm_e ?_))
      refine kl i _ _ _ _ hi rfl h' rfl rfl rfl rfl hio f ?_
      rw [jt_sp_go h' (by rw [ei]; exact f), ei]
      rfl
  · exact br_f h (kr 1 (by decide) (jt_sp_end (Int32.not_lt.mp h)))
end
