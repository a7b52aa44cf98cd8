section
variable {th sz S pr pl ct st an rs rk : Int32} {ops xs ys zs N Q : Nat → Int32} {K : Nat → Int64} {ht ts tc se sd kn cv ca cb cs co : Nat → Int32}
theorem jx_isVar {post : Int32 → Prop} {v : Int32} (k1 : jt_vr v → post 1) (k0 : ¬ jt_vr v → post 0) : wpX_isVariable post v := by
  unfold wpX_isVariable
  refine br_c (fun h => k0 ?_) (fun h => br_c (fun h6 => k0 ?_) (fun h6 => k1 ?_))
  · rintro ⟨a, ha, rfl⟩
    exact nI_pos (by omega) h
  · rintro ⟨a, ha, rfl⟩
    exact nI_ge (b := 6) ha (by omega) h6
  · obtain ⟨j, hj, rfl⟩ := nI_of h
    have := mt (nI_leI (a := 6) (b := j) (by omega) hj).mpr h6
    exact ⟨j, by omega, rfl⟩
theorem jx_isTg {post : Int32 → Prop} {v : Int32} (k1 : jt_tg v → post 1) (k0 : ¬ jt_tg v → post 0) : wpX_isTarget post v := by
  unfold wpX_isTarget
  refine br_c (fun h => k0 ?_) (fun h => br_c (fun h6 => k0 ?_) (fun h6 => k1 ?_))
  · rintro ⟨a, ha, rfl⟩
    exact nI_pos (by omega) h
  · rintro ⟨a, ha, rfl⟩
    exact nI_ge (b := 24) ha (by omega) h6
  · obtain ⟨j, hj, rfl⟩ := nI_of h
    have := mt (nI_leI (a := 24) (b := j) (by omega) hj).mpr h6
    exact ⟨j, by omega, rfl⟩
theorem jy_isVar {post : Int32 → Prop} {v : Int32} (k1 : jt_vr v → post 1) (k0 : ¬ jt_vr v → post 0) : wpY_isVariable post (sz, pr, pl, ct, st, ops, xs, ys, zs, Q, N, K) v := by
  unfold wpY_isVariable
  refine br_c (fun h => k0 ?_) (fun h => br_c (fun h6 => k0 ?_) (fun h6 => k1 ?_))
  · rintro ⟨a, ha, rfl⟩
    exact nI_pos (by omega) h
  · rintro ⟨a, ha, rfl⟩
    exact nI_nlt (a := 5) (by omega) (by omega) h6
  · obtain ⟨j, hj, rfl⟩ := nI_of h
    have := mt (nI_ltI (a := 5) (b := j) (by omega) hj).mpr h6
    exact ⟨j, by omega, rfl⟩
theorem jy_isPl {post : Int32 → Prop} {v : Int32} (k1 : jt_tg v → post 1) (k0 : ¬ jt_tg v → post 0) : wpY_isPlace post (sz, pr, pl, ct, st, ops, xs, ys, zs, Q, N, K) v := by
  unfold wpY_isPlace
  refine br_c (fun h => k0 ?_) (fun h => br_c (fun h6 => k0 ?_) (fun h6 => k1 ?_))
  · rintro ⟨a, ha, rfl⟩
    exact nI_pos (by omega) h
  · rintro ⟨a, ha, rfl⟩
    exact nI_nlt (a := 23) (by omega) (by omega) h6
  · obtain ⟨j, hj, rfl⟩ := nI_of h
    have := mt (nI_ltI (a := 23) (b := j) (by omega) hj).mpr h6
    exact ⟨j, by omega, rfl⟩
/-- an op with three operands -/
def jt_th (op : Int32) : Prop := ¬ op < 4 ∧ ¬ 7 < op
theorem jx_three {post : Int32 → Prop} {p : Int32} (k1 : jt_th p → post 1) (k0 : ¬ jt_th p → post 0) : wpX_hasThreeOperands post p := by
  unfold wpX_hasThreeOperands
  exact br_c (fun h => k0 (fun t => t.1 h)) (fun h => br_c (fun h7 => k0 (fun t => t.2 h7)) (fun h7 => k1 ⟨h, h7⟩))
theorem jy_typed {post : Int32 → Prop} {p : Int32} (k1 : jt_th p → post 1) (k0 : ¬ jt_th p → post 0) : wpY_typed post (sz, pr, pl, ct, st, ops, xs, ys, zs, Q, N, K) p := by
  unfold wpY_typed
  exact br_c (fun h => k0 (fun t => t.1 h)) (fun h => br_c (fun h7 => k0 (fun t => t.2 h7)) (fun h7 => k1 ⟨h, h7⟩))
theorem jt_iok_r {op x y z : Int32} (h : jt_iok op x y z) : ¬ op < 0 ∧ op ≤ 10 := by
  rcases h with ⟨rfl, _⟩ | ⟨rfl, _⟩ | ⟨rfl, _⟩ | ⟨rfl, _⟩ | ⟨rfl, _⟩ | ⟨rfl, _⟩ | ⟨rfl, _⟩ | ⟨rfl, _⟩ | ⟨rfl, _⟩ | ⟨rfl, _⟩ | ⟨rfl, _⟩ <;> decide
theorem jt_op11 {op : Int32} (h0 : ¬ op < 0) (h10 : op ≤ 10) : op = 0 ∨ op = 1 ∨ op = 2 ∨ op = 3 ∨ op = 4 ∨ op = 5 ∨ op = 6 ∨ op = 7 ∨ op = 8 ∨ op = 9 ∨ op = 10 := by
  obtain ⟨j, hj, rfl⟩ := nI_of2 (n := 10) (by decide) h0 h10
  have : j = 0 ∨ j = 1 ∨ j = 2 ∨ j = 3 ∨ j = 4 ∨ j = 5 ∨ j = 6 ∨ j = 7 ∨ j = 8 ∨ j = 9 ∨ j = 10 := by omega
  rcases this with rfl | rfl | rfl | rfl | rfl | rfl | rfl | rfl | rfl | rfl | rfl <;> decide
theorem jt_iok_0 {x y z : Int32} : jt_iok 0 x y z ↔ (jt_vr x) := by
  unfold jt_iok
  simp
theorem jt_iok_1 {x y z : Int32} : jt_iok 1 x y z ↔ (jt_vr x) := by
  unfold jt_iok
  simp
theorem jt_iok_2 {x y z : Int32} : jt_iok 2 x y z ↔ (jt_vr x) := by
  unfold jt_iok
  simp
theorem jt_iok_3 {x y z : Int32} : jt_iok 3 x y z ↔ (jt_vr x ∧ jt_vr y) := by
  unfold jt_iok
  simp
theorem jt_iok_4 {x y z : Int32} : jt_iok 4 x y z ↔ (jt_vr x ∧ jt_vr y ∧ jt_vr z) := by
  unfold jt_iok
  simp
theorem jt_iok_5 {x y z : Int32} : jt_iok 5 x y z ↔ (jt_vr x ∧ jt_vr y ∧ jt_vr z) := by
  unfold jt_iok
  simp
theorem jt_iok_6 {x y z : Int32} : jt_iok 6 x y z ↔ (jt_vr x ∧ jt_vr y ∧ jt_vr z) := by
  unfold jt_iok
  simp
theorem jt_iok_7 {x y z : Int32} : jt_iok 7 x y z ↔ (jt_vr x ∧ jt_vr y ∧ jt_vr z) := by
  unfold jt_iok
  simp
theorem jt_iok_8 {x y z : Int32} : jt_iok 8 x y z ↔ (jt_vr x ∧ jt_tg y) := by
  unfold jt_iok
  simp
theorem jt_iok_9 {x y z : Int32} : jt_iok 9 x y z ↔ (jt_tg x) := by
  unfold jt_iok
  simp
theorem jt_iok_10 {x y z : Int32} : jt_iok 10 x y z ↔ (jt_vr x) := by
  unfold jt_iok
  simp
theorem jx_isIns {post : Int32 → Prop} {op x y z : Int32} (k1 : jt_iok op x y z → post 1) (k0 : ¬ jt_iok op x y z → post 0) : wpX_isInstruction post op x y z := by
  unfold wpX_isInstruction
  by_cases h0 : op < 0
  · exact br_t h0 (k0 (fun h => (jt_iok_r h).1 h0))
  · refine br_f h0 ?_
    by_cases h10 : op ≤ 10
    · refine br_t h10 ?_
      rcases jt_op11 h0 h10 with rfl | rfl | rfl | rfl | rfl | rfl | rfl | rfl | rfl | rfl | rfl
      · exact br_f (by decide) (jx_isVar (fun hx => br_f (by decide) (br_f (by decide) (br_f (by decide) (br_t (by decide) (br_t rfl (k1 (jt_iok_0.mpr hx))))))) (fun hx => br_t rfl (k0 (fun g => hx (jt_iok_0.mp g)))))
      · exact br_f (by decide) (jx_isVar (fun hx => br_f (by decide) (br_f (by decide) (br_f (by decide) (br_t (by decide) (br_t rfl (k1 (jt_iok_1.mpr hx))))))) (fun hx => br_t rfl (k0 (fun g => hx (jt_iok_1.mp g)))))
      · exact br_f (by decide) (jx_isVar (fun hx => br_f (by decide) (br_f (by decide) (br_f (by decide) (br_t (by decide) (br_t rfl (k1 (jt_iok_2.mpr hx))))))) (fun hx => br_t rfl (k0 (fun g => hx (jt_iok_2.mp g)))))
      · exact br_f (by decide) (jx_isVar (fun hx => br_f (by decide) (br_f (by decide) (br_t rfl (jx_isVar (fun hy => ⟨rfl, k1 (jt_iok_3.mpr ⟨hx, hy⟩)⟩) (fun hy => ⟨rfl, k0 (fun g => hy (jt_iok_3.mp g).2)⟩))))) (fun hx => br_t rfl (k0 (fun g => hx (jt_iok_3.mp g).1))))
      · exact br_f (by decide) (jx_isVar (fun hx => br_f (by decide) (br_f (by decide) (br_f (by decide) (br_f (by decide) (br_f (by decide) (br_f (by decide) (jx_isVar (fun hy => br_f (by decide) (jx_isVar (fun hz => br_f (by decide) (k1 (jt_iok_4.mpr ⟨hx, hy, hz⟩))) (fun hz => br_t rfl (k0 (fun g => hz (jt_iok_4.mp g).2.2))))) (fun hy => br_t rfl (k0 (fun g => hy (jt_iok_4.mp g).2.1)))))))))) (fun hx => br_t rfl (k0 (fun g => hx (jt_iok_4.mp g).1))))
      · exact br_f (by decide) (jx_isVar (fun hx => br_f (by decide) (br_f (by decide) (br_f (by decide) (br_f (by decide) (br_f (by decide) (br_f (by decide) (jx_isVar (fun hy => br_f (by decide) (jx_isVar (fun hz => br_f (by decide) (k1 (jt_iok_5.mpr ⟨hx, hy, hz⟩))) (fun hz => br_t rfl (k0 (fun g => hz (jt_iok_5.mp g).2.2))))) (fun hy => br_t rfl (k0 (fun g => hy (jt_iok_5.mp g).2.1)))))))))) (fun hx => br_t rfl (k0 (fun g => hx (jt_iok_5.mp g).1))))
      · exact br_f (by decide) (jx_isVar (fun hx => br_f (by decide) (br_f (by decide) (br_f (by decide) (br_f (by decide) (br_f (by decide) (br_f (by decide) (jx_isVar (fun hy => br_f (by decide) (jx_isVar (fun hz => br_f (by decide) (k1 (jt_iok_6.mpr ⟨hx, hy, hz⟩))) (fun hz => br_t rfl (k0 (fun g => hz (jt_iok_6.mp g).2.2))))) (fun hy => br_t rfl (k0 (fun g => hy (jt_iok_6.mp g).2.1)))))))))) (fun hx => br_t rfl (k0 (fun g => hx (jt_iok_6.mp g).1))))
      · exact br_f (by decide) (jx_isVar (fun hx => br_f (by decide) (br_f (by decide) (br_f (by decide) (br_f (by decide) (br_f (by decide) (br_f (by decide) (jx_isVar (fun hy => br_f (by decide) (jx_isVar (fun hz => br_f (by decide) (k1 (jt_iok_7.mpr ⟨hx, hy, hz⟩))) (fun hz => br_t rfl (k0 (fun g => hz (jt_iok_7.mp g).2.2))))) (fun hy => br_t rfl (k0 (fun g => hy (jt_iok_7.mp g).2.1)))))))))) (fun hx => br_t rfl (k0 (fun g => hx (jt_iok_7.mp g).1))))
      · exact br_f (by decide) (jx_isVar (fun hx => br_f (by decide) (br_t rfl (jx_isTg (fun hy => ⟨rfl, k1 (jt_iok_8.mpr ⟨hx, hy⟩)⟩) (fun hy => ⟨rfl, k0 (fun g => hy (jt_iok_8.mp g).2)⟩)))) (fun hx => br_t rfl (k0 (fun g => hx (jt_iok_8.mp g).1))))
      · exact br_t rfl (jx_isTg (fun h => ⟨rfl, k1 (jt_iok_9.mpr h)⟩) (fun h => ⟨rfl, k0 (fun g => h (jt_iok_9.mp g))⟩))
      · exact br_f (by decide) (jx_isVar (fun hx => br_f (by decide) (br_f (by decide) (br_f (by decide) (br_f (by decide) (br_t (by decide) (br_t rfl (k1 (jt_iok_10.mpr hx)))))))) (fun hx => br_t rfl (k0 (fun g => hx (jt_iok_10.mp g)))))
    · exact br_f h10 (k0 (fun h => h10 (jt_iok_r h).2))
theorem jy_fits {post : Int32 → Prop} {op x y z : Int32} (k1 : jt_iok op x y z → post 1) (k0 : ¬ jt_iok op x y z → post 0) : wpY_fits post (sz, pr, pl, ct, st, ops, xs, ys, zs, Q, N, K) op x y z := by
  unfold wpY_fits
  by_cases h0 : op < 0
  · exact br_t h0 (k0 (fun h => (jt_iok_r h).1 h0))
  · refine br_f h0 ?_
    by_cases h10 : op ≤ 10
    · refine br_t h10 ?_
      rcases jt_op11 h0 h10 with rfl | rfl | rfl | rfl | rfl | rfl | rfl | rfl | rfl | rfl | rfl
      · exact br_f (by decide) (jy_isVar (fun hx => br_f (by decide) (br_f (by decide) (br_f (by decide) (jy_typed0 (by decide) (br_t rfl (jy_typed0 (by decide) (br_t rfl (k1 (jt_iok_0.mpr hx))))))))) (fun hx => br_t rfl (k0 (fun g => hx (jt_iok_0.mp g)))))
      · exact br_f (by decide) (jy_isVar (fun hx => br_f (by decide) (br_f (by decide) (br_f (by decide) (jy_typed0 (by decide) (br_t rfl (jy_typed0 (by decide) (br_t rfl (k1 (jt_iok_1.mpr hx))))))))) (fun hx => br_t rfl (k0 (fun g => hx (jt_iok_1.mp g)))))
      · exact br_f (by decide) (jy_isVar (fun hx => br_f (by decide) (br_f (by decide) (br_f (by decide) (jy_typed0 (by decide) (br_t rfl (jy_typed0 (by decide) (br_t rfl (k1 (jt_iok_2.mpr hx))))))))) (fun hx => br_t rfl (k0 (fun g => hx (jt_iok_2.mp g)))))
      · exact br_f (by decide) (jy_isVar (fun hx => br_f (by decide) (br_f (by decide) (br_t rfl (jy_isVar (fun hy => br_f (by decide) (jy_typed0 (by decide) (br_t rfl (k1 (jt_iok_3.mpr ⟨hx, hy⟩))))) (fun hy => br_t rfl (k0 (fun g => hy (jt_iok_3.mp g).2))))))) (fun hx => br_t rfl (k0 (fun g => hx (jt_iok_3.mp g).1))))
      · exact br_f (by decide) (jy_isVar (fun hx => br_f (by decide) (br_f (by decide) (br_f (by decide) (jy_typed1 (by decide) (by decide) (br_f (by decide) (jy_isVar (fun hy => br_f (by decide) (jy_typed1 (by decide) (by decide) (br_f (by decide) (jy_isVar (fun hz => br_f (by decide) (k1 (jt_iok_4.mpr ⟨hx, hy, hz⟩))) (fun hz => br_t rfl (k0 (fun g => hz (jt_iok_4.mp g).2.2))))))) (fun hy => br_t rfl (k0 (fun g => hy (jt_iok_4.mp g).2.1))))))))) (fun hx => br_t rfl (k0 (fun g => hx (jt_iok_4.mp g).1))))
      · exact br_f (by decide) (jy_isVar (fun hx => br_f (by decide) (br_f (by decide) (br_f (by decide) (jy_typed1 (by decide) (by decide) (br_f (by decide) (jy_isVar (fun hy => br_f (by decide) (jy_typed1 (by decide) (by decide) (br_f (by decide) (jy_isVar (fun hz => br_f (by decide) (k1 (jt_iok_5.mpr ⟨hx, hy, hz⟩))) (fun hz => br_t rfl (k0 (fun g => hz (jt_iok_5.mp g).2.2))))))) (fun hy => br_t rfl (k0 (fun g => hy (jt_iok_5.mp g).2.1))))))))) (fun hx => br_t rfl (k0 (fun g => hx (jt_iok_5.mp g).1))))
      · exact br_f (by decide) (jy_isVar (fun hx => br_f (by decide) (br_f (by decide) (br_f (by decide) (jy_typed1 (by decide) (by decide) (br_f (by decide) (jy_isVar (fun hy => br_f (by decide) (jy_typed1 (by decide) (by decide) (br_f (by decide) (jy_isVar (fun hz => br_f (by decide) (k1 (jt_iok_6.mpr ⟨hx, hy, hz⟩))) (fun hz => br_t rfl (k0 (fun g => hz (jt_iok_6.mp g).2.2))))))) (fun hy => br_t rfl (k0 (fun g => hy (jt_iok_6.mp g).2.1))))))))) (fun hx => br_t rfl (k0 (fun g => hx (jt_iok_6.mp g).1))))
      · exact br_f (by decide) (jy_isVar (fun hx => br_f (by decide) (br_f (by decide) (br_f (by decide) (jy_typed1 (by decide) (by decide) (br_f (by decide) (jy_isVar (fun hy => br_f (by decide) (jy_typed1 (by decide) (by decide) (br_f (by decide) (jy_isVar (fun hz => br_f (by decide) (k1 (jt_iok_7.mpr ⟨hx, hy, hz⟩))) (fun hz => br_t rfl (k0 (fun g => hz (jt_iok_7.mp g).2.2))))))) (fun hy => br_t rfl (k0 (fun g => hy (jt_iok_7.mp g).2.1))))))))) (fun hx => br_t rfl (k0 (fun g => hx (jt_iok_7.mp g).1))))
      · exact br_f (by decide) (jy_isVar (fun hx => br_f (by decide) (br_t rfl (jy_isPl (fun hy => ⟨rfl, k1 (jt_iok_8.mpr ⟨hx, hy⟩)⟩) (fun hy => ⟨rfl, k0 (fun g => hy (jt_iok_8.mp g).2)⟩)))) (fun hx => br_t rfl (k0 (fun g => hx (jt_iok_8.mp g).1))))
      · exact br_t rfl (jy_isPl (fun h => ⟨rfl, k1 (jt_iok_9.mpr h)⟩) (fun h => ⟨rfl, k0 (fun g => h (jt_iok_9.mp g))⟩))
      · exact br_f (by decide) (jy_isVar (fun hx => br_f (by decide) (br_f (by decide) (br_f (by decide) (jy_typed0 (by decide) (br_t rfl (jy_typed0 (by decide) (br_t rfl (k1 (jt_iok_10.mpr hx))))))))) (fun hx => br_t rfl (k0 (fun g => hx (jt_iok_10.mp g)))))
    · exact br_f h10 (k0 (fun h => h10 (jt_iok_r h).2))
theorem jx_write {post : SX → Prop} {i : Nat} {op x y z : Int32} (hi : i < 24) (h : post (th, sz, S, pr, pl, ct, st, an, rs, rk, upd ops i op, upd xs i x, upd ys i y, upd zs i z, N, K, ht, ts, tc, se, sd, kn, cv, ca, cb, cs, co)) : wpX_write post (th, sz, S, pr, pl, ct, st, an, rs, rk, ops, xs, ys, zs, N, K, ht, ts, tc, se, sd, kn, cv, ca, cb, cs, co) (nI i) op x y z := by
  have hin : vp_in (nI i) 24 := vp_in_nI hi (by omega)
  have e : (nI i).toNatClampNeg = i := nI_clamp (by omega)
  unfold wpX_write
  refine ⟨hin, ?_⟩
  rw [e]
  exact nm_e ⟨hin, nm_e ⟨hin, nm_e ⟨hin, nm_e h⟩⟩⟩
theorem jy_write {post : SY → Prop} {i : Nat} {op x y z : Int32} (hi : i < 24) (h : post (sz, pr, pl, ct, st, upd ops i op, upd xs i x, upd ys i y, upd zs i z, Q, N, K)) : wpY_write post (sz, pr, pl, ct, st, ops, xs, ys, zs, Q, N, K) (nI i) op x y z := by
  have hin : vp_in (nI i) 24 := vp_in_nI hi (by omega)
  have e : (nI i).toNatClampNeg = i := nI_clamp (by omega)
  unfold wpY_write
  refine ⟨hin, ?_⟩
  rw [e]
  exact nm_e ⟨hin, nm_e ⟨hin, nm_e ⟨hin, nm_e h⟩⟩⟩
theorem jx_forgetL {post : SX → Prop} : ∀ (d i n : Nat) (ht ts : Nat → Int32), i + d = 24 → d < n → (∀ t, t < i → ts t = 0) → (∀ ht' ts' : Nat → Int32, (∀ t, t < 24 → ts' t = 0) → post (th, sz, S, pr, pl, ct, st, an, rs, rk, ops, xs, ys, zs, N, K, ht', ts', tc, se, sd, kn, cv, ca, cb, cs, co)) → wX_forgetTraces_2 post th sz S pr pl ct st an rs rk n (nI i) ops xs ys zs N K ht ts tc se sd kn cv ca cb cs co := by
  intro d
  induction d with
  | zero =>
    intro i n ht ts hd hn hz k
    obtain ⟨n, rfl⟩ : ∃ n', n = n' + 1 := ⟨n - 1, by omega⟩
    rw [wX_forgetTraces_2]
    exact br_t (nI_le (a := 24) (by omega) (by omega)) (k _ _ (fun t h => hz t (by omega)))
  | succ d ih =>
    intro i n ht ts hd hn hz k
    obtain ⟨n, rfl⟩ : ∃ n', n = n' + 1 := ⟨n - 1, by omega⟩
    rw [wX_forgetTraces_2]
    have hin : vp_in (nI i) 24 := vp_in_nI (by omega) (by omega)
    have e : (nI i).toNatClampNeg = i := nI_clamp (by omega)
    refine br_f (nI_ge (b := 24) (by omega) (by omega)) ⟨hin, nm_e ⟨hin, nm_e (nm_r (nI_1 i) ?_)⟩⟩
    refine ih (i + 1) n _ _ (by omega) (by omega) ?_ k
    intro t h
    rw [e]
    by_cases c : t = i
    · rw [c]; exact pk_us
    · rw [pk_un c]; exact hz t (by omega)
theorem jx_forget {post : SX → Prop} (k : ∀ ht' ts' : Nat → Int32, (∀ t, t < 24 → ts' t = 0) → post (th, sz, S, pr, pl, ct, st, an, rs, rk, ops, xs, ys, zs, N, K, ht', ts', tc, se, sd, kn, cv, ca, cb, cs, co)) : wpX_forgetTraces post (th, sz, S, pr, pl, ct, st, an, rs, rk, ops, xs, ys, zs, N, K, ht, ts, tc, se, sd, kn, cv, ca, cb, cs, co) := by
  unfold wpX_forgetTraces
  exact ⟨25, jx_forgetL 24 0 25 ht ts (by omega) (by omega) (fun t h => absurd h (by omega)) k⟩
/-- the first i cells become 0 -/
def jt_zr (f : Nat → Int32) (i : Nat) : Nat → Int32 := fun j => if j < i then 0 else f j
theorem jt_zr_0 (f : Nat → Int32) : jt_zr f 0 = f := by
  funext j
  exact if_neg (by omega)
theorem jt_zr_s (f : Nat → Int32) (i : Nat) : upd (jt_zr f i) i 0 = jt_zr f (i + 1) := by
  funext j
  unfold upd jt_zr
  by_cases c : j = i
  · rw [if_pos c, if_pos (by omega)]
  · rw [if_neg c]
    by_cases c2 : j < i
    · rw [if_pos c2, if_pos (by omega)]
    · rw [if_neg c2, if_neg (by omega)]
theorem jt_zr_at (f : Nat → Int32) {i j : Nat} (h : j < i) : jt_zr f i j = 0 := if_pos h
theorem jx_restartL {post : SX → Prop} (k : post (th, sz, 0, 0, 0, 0, 0, an, rs, rk, ops, xs, ys, zs, jt_zr N 6, K, ht, ts, tc, se, sd, kn, cv, ca, cb, cs, co)) : ∀ (d i n : Nat), i + d = 6 → d < n → wX_restart_2 post th sz S pr pl ct st an rs rk n (nI i) ops xs ys zs (jt_zr N i) K ht ts tc se sd kn cv ca cb cs co := by
  intro d
  induction d with
  | zero =>
    intro i n hd hn
    obtain ⟨n, rfl⟩ : ∃ n', n = n' + 1 := ⟨n - 1, by omega⟩
    rw [wX_restart_2]
    have ei : i = 6 := by omega
    subst ei
    exact br_t (nI_le (a := 6) (by omega) (by omega)) k
  | succ d ih =>
    intro i n hd hn
    obtain ⟨n, rfl⟩ : ∃ n', n = n' + 1 := ⟨n - 1, by omega⟩
    rw [wX_restart_2]
    have hin : vp_in (nI i) 6 := vp_in_nI (by omega) (by omega)
    have e : (nI i).toNatClampNeg = i := nI_clamp (by omega)
    refine br_f (nI_ge (b := 6) (by omega) (by omega)) ⟨hin, nm_r (e' := jt_zr N (i + 1)) (by rw [e, jt_zr_s]) (nm_r (nI_1 i) ?_)⟩
    exact ih (i + 1) n (by omega) (by omega)
theorem jx_restart {post : SX → Prop} (k : post (th, sz, 0, 0, 0, 0, 0, an, rs, rk, ops, xs, ys, zs, jt_zr N 6, K, ht, ts, tc, se, sd, kn, cv, ca, cb, cs, co)) : wpX_restart post (th, sz, S, pr, pl, ct, st, an, rs, rk, ops, xs, ys, zs, N, K, ht, ts, tc, se, sd, kn, cv, ca, cb, cs, co) := by
  unfold wpX_restart
  have := jx_restartL (th := th) (sz := sz) (S := S) (pr := pr) (pl := pl) (ct := ct) (st := st) (an := an) (rs := rs) (rk := rk) (ops := ops) (xs := xs) (ys := ys) (zs := zs) (N := N) (K := K) (ht := ht) (ts := ts) (tc := tc) (se := se) (sd := sd) (kn := kn) (cv := cv) (ca := ca) (cb := cb) (cs := cs) (co := co) k 6 0 7 (by omega) (by omega)
  rw [jt_zr_0] at this
  exact ⟨7, this⟩
theorem jy_restartL {post : SY → Prop} (k : post (sz, 0, 0, 0, 0, ops, xs, ys, zs, jt_zr Q 6, jt_zr N 6, K)) : ∀ (d i n : Nat), i + d = 6 → d < n → wY_restart_2 post n (nI i) sz pr pl ct st ops xs ys zs (jt_zr Q i) (jt_zr N i) K := by
  intro d
  induction d with
  | zero =>
    intro i n hd hn
    obtain ⟨n, rfl⟩ : ∃ n', n = n' + 1 := ⟨n - 1, by omega⟩
    rw [wY_restart_2]
    have ei : i = 6 := by omega
    subst ei
    exact br_t (nI_le (a := 6) (by omega) (by omega)) k
  | succ d ih =>
    intro i n hd hn
    obtain ⟨n, rfl⟩ : ∃ n', n = n' + 1 := ⟨n - 1, by omega⟩
    rw [wY_restart_2]
    have e : (nI i).toNatClampNeg = i := nI_clamp (by omega)
    refine br_f (nI_ge (b := 6) (by omega) (by omega)) (jy_give ⟨i, by omega, rfl⟩ ?_)
    rw [e, jt_zr_s, jt_zr_s]
    exact nm_r (nI_1 i) (ih (i + 1) n (by omega) (by omega))
theorem jy_restart {post : SY → Prop} (k : post (sz, 0, 0, 0, 0, ops, xs, ys, zs, jt_zr Q 6, jt_zr N 6, K)) : wpY_restart post (sz, pr, pl, ct, st, ops, xs, ys, zs, Q, N, K) := by
  unfold wpY_restart
  have := jy_restartL (sz := sz) (pr := pr) (pl := pl) (ct := ct) (st := st) (ops := ops) (xs := xs) (ys := ys) (zs := zs) (N := N) (Q := Q) (K := K) k 6 0 7 (by omega) (by omega)
  rw [jt_zr_0, jt_zr_0] at this
  exact ⟨7, this⟩
end
