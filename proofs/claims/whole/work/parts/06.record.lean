section
variable {th sz S pr pl ct st an rs rk : Int32} {ops xs ys zs N : Nat → Int32} {K : Nat → Int64} {ht ts tc se sd kn cv ca cb cs co : Nat → Int32}
theorem jx_addCode {post : SX → Prop} {t m : Nat} {k v a b : Int32} (ht' : t < 24) (hm : m < 32) (h : post (th, sz, S, pr, pl, ct, st, nI t, rs, nI (m + 1), ops, xs, ys, zs, N, K, ht, ts, tc, se, sd, upd kn (32 * t + m) k, upd cv (32 * t + m) v, upd ca (32 * t + m) a, upd cb (32 * t + m) b, upd cs (32 * t + m) rs, upd co (32 * t + m) S)) : wpX_addCode post (th, sz, S, pr, pl, ct, st, nI t, rs, nI m, ops, xs, ys, zs, N, K, ht, ts, tc, se, sd, kn, cv, ca, cb, cs, co) k v a b := by
  have e : nI t * 32 + nI m = nI (32 * t + m) := by
    have e1 : nI t * 32 = nI (t * 32) := pk_mul t 32
    rw [e1, nI_add, Nat.mul_comm]
  have hin : vp_in (nI (32 * t + m)) 768 := vp_in_nI (by omega) (by omega)
  have ec : (nI (32 * t + m)).toNatClampNeg = 32 * t + m := nI_clamp (by omega)
  unfold wpX_addCode
  refine nm_r e ?_
  rw [ec]
  exact ⟨hin, nm_e ⟨hin, nm_e ⟨hin, nm_e ⟨hin, nm_e ⟨hin, nm_e ⟨hin, nm_e (nm_r (nI_1 m) h)⟩⟩⟩⟩⟩⟩
theorem jx_combining {post : SX → Prop} {i t m : Nat} {op x y z Sb : Int32} (hi : i < 24) (ht' : t < 24) (hm : m < 32) (eo : ops i = op) (ex : xs i = x) (ey : ys i = y) (ez : zs i = z) (ho : op = 4 ∨ op = 5 ∨ op = 6 ∨ op = 7)
    (k1 : ∀ k v a b, jt_cd op x y z (nI i) Sb N = some (k, v, a, b) → post (th, sz, S, pr, pl, ct, st, nI t, rs, nI (m + 1), ops, xs, ys, zs, N, K, ht, ts, tc, se, sd, upd kn (32 * t + m) k, upd cv (32 * t + m) v, upd ca (32 * t + m) a, upd cb (32 * t + m) b, upd cs (32 * t + m) rs, upd co (32 * t + m) S)) : wpX_compileCombining post (th, sz, S, pr, pl, ct, st, nI t, rs, nI m, ops, xs, ys, zs, N, K, ht, ts, tc, se, sd, kn, cv, ca, cb, cs, co) (nI i) Sb := by
  have hin : vp_in (nI i) 24 := vp_in_nI hi (by omega)
  have e : (nI i).toNatClampNeg = i := nI_clamp (by omega)
  have eo' : ops (nI i).toNatClampNeg = op := by rw [e]; exact eo
  have ex' : xs (nI i).toNatClampNeg = x := by rw [e]; exact ex
  have ey' : ys (nI i).toNatClampNeg = y := by rw [e]; exact ey
  have ez' : zs (nI i).toNatClampNeg = z := by rw [e]; exact ez
  have k113 : ∀ kk : Int32, jt_cd op x y z (nI i) Sb N = some (kk, x, y, z) → wX_compileCombining_113 post (nI i) kk th sz S pr pl ct st (nI t) rs (nI m) ops xs ys zs N K ht ts tc se sd kn cv ca cb cs co := by
    intro kk hk
    unfold wX_compileCombining_113
    rw [ex', ey', ez']
    exact ⟨hin, hin, hin, jx_addCode ht' hm (k1 kk x y z hk)⟩
  unfold wpX_compileCombining
  refine ⟨hin, jx_sortIn ⟨hin, jx_sortIn ⟨hin, ?_⟩⟩⟩
  rw [eo', ey', ez']
  rcases ho with rfl | rfl | rfl | rfl
  · refine br_f (by decide) ?_
    unfold wX_compileCombining_54
    rw [eo']
    refine ⟨hin, br_t rfl ?_⟩
    by_cases c : jt_so Sb y = 1
    · exact br_t c (k113 2 (by rw [jt_cd_4, if_pos c]))
    · exact br_f c (k113 3 (by rw [jt_cd_4, if_neg c]))
  · refine br_f (by decide) ?_
    unfold wX_compileCombining_54
    rw [eo']
    exact ⟨hin, br_f (by decide) ⟨hin, br_t rfl (k113 4 (jt_cd_5 ..))⟩⟩
  · refine br_f (by decide) ?_
    unfold wX_compileCombining_54
    rw [eo']
    exact ⟨hin, br_f (by decide) ⟨hin, br_f (by decide) ⟨hin, br_t rfl (k113 5 (jt_cd_6 ..))⟩⟩⟩
  · refine br_t rfl ?_
    by_cases c : jt_so Sb y = jt_so Sb z
    · refine br_t c ?_
      unfold wX_compileCombining_54
      rw [eo']
      exact ⟨hin, br_f (by decide) ⟨hin, br_f (by decide) ⟨hin, br_f (by decide) (k113 6 (by rw [jt_cd_7, if_pos c]))⟩⟩⟩
    · refine br_f c ⟨hin, ?_⟩
      rw [ex']
      exact jx_addCode ht' hm (k1 0 x 0 0 (by rw [jt_cd_7, if_neg c]))
theorem jx_compile {post : SX → Prop} {i t m : Nat} {op x y z Sb : Int32} (hi : i < 24) (ht' : t < 24) (hm : m < 32) (eo : ops i = op) (ex : xs i = x) (ey : ys i = y) (ez : zs i = z) (h : jt_iok op x y z)
    (k0 : jt_cd op x y z (nI i) Sb N = none → post (th, sz, S, pr, pl, ct, st, nI t, rs, nI m, ops, xs, ys, zs, N, K, ht, ts, tc, se, sd, kn, cv, ca, cb, cs, co))
    (k1 : ∀ k v a b, jt_cd op x y z (nI i) Sb N = some (k, v, a, b) → post (th, sz, S, pr, pl, ct, st, nI t, rs, nI (m + 1), ops, xs, ys, zs, N, K, ht, ts, tc, se, sd, upd kn (32 * t + m) k, upd cv (32 * t + m) v, upd ca (32 * t + m) a, upd cb (32 * t + m) b, upd cs (32 * t + m) rs, upd co (32 * t + m) S)) : wpX_compile post (th, sz, S, pr, pl, ct, st, nI t, rs, nI m, ops, xs, ys, zs, N, K, ht, ts, tc, se, sd, kn, cv, ca, cb, cs, co) (nI i) Sb := by
  have hin : vp_in (nI i) 24 := vp_in_nI hi (by omega)
  have e : (nI i).toNatClampNeg = i := nI_clamp (by omega)
  have eo' : ops (nI i).toNatClampNeg = op := by rw [e]; exact eo
  have ex' : xs (nI i).toNatClampNeg = x := by rw [e]; exact ex
  have ey' : ys (nI i).toNatClampNeg = y := by rw [e]; exact ey
  have ez' : zs (nI i).toNatClampNeg = z := by rw [e]; exact ez
  have kc : (op = 4 ∨ op = 5 ∨ op = 6 ∨ op = 7) → wX_compile_173 post (nI i) Sb th sz S pr pl ct st (nI t) rs (nI m) ops xs ys zs N K ht ts tc se sd kn cv ca cb cs co := by
    intro ho
    unfold wX_compile_173
    exact jx_combining hi ht' hm eo ex ey ez ho k1
  have k80 : (op = 0 ∨ op = 1 ∨ op = 2) → jt_vr x → wX_compile_80 post x th sz S pr pl ct st (nI t) rs (nI m) ops xs ys zs N K ht ts tc se sd kn cv ca cb cs co := by
    intro ho hx
    unfold wX_compile_80
    refine ⟨jt_vr_in hx, jx_addCode ht' hm (k1 0 x _ 0 ?_)⟩
    rcases ho with rfl | rfl | rfl
    · rw [jt_cd_0]
    · rw [jt_cd_1]
    · rw [jt_cd_2]
  unfold wpX_compile
  refine ⟨hin, nm_r ex' ⟨hin, nm_r ey' ⟨hin, nm_r eo' ?_⟩⟩⟩
  rcases h with ⟨rfl, hx⟩ | ⟨rfl, hx⟩ | ⟨rfl, hx⟩ | ⟨rfl, hx, hy⟩ | ⟨rfl, hx, hy, hz⟩ | ⟨rfl, hx, hy, hz⟩ | ⟨rfl, hx, hy, hz⟩ | ⟨rfl, hx, hy, hz⟩ | ⟨rfl, hx, hy⟩ | ⟨rfl, hx⟩ | ⟨rfl, hx⟩
  · exact br_f (by decide) (br_f (by decide) (br_t rfl (k80 (by decide) hx)))
  · exact br_f (by decide) (br_f (by decide) (br_f (by decide) (br_t rfl (k80 (by decide) hx))))
  · exact br_f (by decide) (br_f (by decide) (br_f (by decide) (br_f (by decide) (br_t rfl (k80 (by decide) hx)))))
  · exact br_f (by decide) (br_f (by decide) (br_f (by decide) (br_f (by decide) (br_f (by decide) (br_t rfl (jx_addCode ht' hm (k1 1 x y 0 (jt_cd_3 ..))))))))
  · exact br_f (by decide) (br_f (by decide) (br_f (by decide) (br_f (by decide) (br_f (by decide) (br_f (by decide) (br_t rfl (kc (by decide))))))))
  · exact br_f (by decide) (br_f (by decide) (br_f (by decide) (br_f (by decide) (br_f (by decide) (br_f (by decide) (br_f (by decide) (br_t rfl (kc (by decide)))))))))
  · exact br_f (by decide) (br_f (by decide) (br_f (by decide) (br_f (by decide) (br_f (by decide) (br_f (by decide) (br_f (by decide) (br_f (by decide) (br_t rfl (kc (by decide))))))))))
  · exact br_f (by decide) (br_f (by decide) (br_f (by decide) (br_f (by decide) (br_f (by decide) (br_f (by decide) (br_f (by decide) (br_f (by decide) (br_f (by decide) (br_t rfl (kc (by decide)))))))))))
  · refine br_f (by decide) (br_f (by decide) (br_f (by decide) (br_f (by decide) (br_f (by decide) (br_f (by decide) (br_f (by decide) (br_f (by decide) (br_f (by decide) (br_f (by decide) (br_t rfl (jx_sortIn ?_)))))))))))
    rw [jt_cd_8] at k0 k1
    by_cases c : jt_so Sb x = 2
    · rw [if_pos c] at k1
      refine br_t c ⟨jt_vr_in hx, jt_vr_in hx, ?_⟩
      by_cases d : N x.toNatClampNeg = 0
      · rw [if_pos d] at k1
        exact br_t d (jx_addCode ht' hm (k1 _ _ _ _ rfl))
      · rw [if_neg d] at k1
        exact br_f d (jx_addCode ht' hm (k1 _ _ _ _ rfl))
    · rw [if_neg c] at k0
      exact br_f c (k0 rfl)
  · exact br_f (by decide) (br_f (by decide) (br_f (by decide) (br_f (by decide) (br_f (by decide) (br_f (by decide) (br_f (by decide) (br_f (by decide) (br_f (by decide) (br_f (by decide) (br_f (by decide) (br_t rfl (k0 (jt_cd_9 ..)))))))))))))
  · exact br_f (by decide) (br_f (by decide) (br_f (by decide) (br_f (by decide) (br_f (by decide) (br_f (by decide) (br_f (by decide) (br_f (by decide) (br_f (by decide) (br_f (by decide) (br_f (by decide) (br_f (by decide) (br_t rfl (jx_sortIn (jx_addCode ht' hm (k1 7 x _ 0 (jt_cd_10 ..))))))))))))))))
/-- one more step of a recording -/
theorem jx_noteStep {post : SX → Prop} {i t j m : Nat} {op x y z s0 : Int32} {N0 : Nat → Int32} (hP : jt_Pok (ops, xs, ys, zs, sz)) (hi : i < 24) (hz : ¬ sz ≤ nI i) (eo : ops i = op) (ex : xs i = x) (ey : ys i = y) (ez : zs i = z) (h : jt_iok op x y z) (hf : ¬ jt_fl op y z s0) (w : jt_wf s0 N0) (eN : N = jt_eN op x y z s0 N0) (eS : S = jt_eS op x y z s0) (eL : pl = jt_eL op x y (nI i) s0 N0)
    (hT : jt_Tok (ops, xs, ys, zs, sz) (kn, cv, ca, cb, cs, co) ts tc se sd) (ht' : t < 24) (h0 : ts t = 0) (hj : j ≤ 32) (hm : m ≤ j) (hc : jt_Ck (kn, cv, ca, cb, cs, co) (32 * t) m) (hS : jt_Snd (ops, xs, ys, zs, sz) (kn, cv, ca, cb, cs, co) t (se t) m j (nI i) s0)
    (k : ∀ an' rs' rk' ts' tc' sd' kn' cv' ca' cb' cs' co', jt_Tok (ops, xs, ys, zs, sz) (kn', cv', ca', cb', cs', co') ts' tc' se sd' → jt_Rec (ops, xs, ys, zs, sz) (kn', cv', ca', cb', cs', co') ts' se an' rs' rk' pl S → post (th, sz, S, pr, pl, ct, st, an', rs', rk', ops, xs, ys, zs, N, K, ht, ts', tc', se, sd', kn', cv', ca', cb', cs', co')) : wpX_noteStep post (th, sz, S, pr, pl, ct, st, nI t, nI j, nI m, ops, xs, ys, zs, N, K, ht, ts, tc, se, sd, kn, cv, ca, cb, cs, co) (nI i) s0 := by
  have e : (nI i).toNatClampNeg = i := nI_clamp (by omega)
  have et : (nI t).toNatClampNeg = t := nI_clamp (by omega)
  have hit : vp_in (nI t) 24 := vp_in_nI ht' (by omega)
  unfold wpX_noteStep
  by_cases c32 : nI j < 32
  · have j32 : j < 32 := (nI_ltI (a := j) (b := 32) (by omega) (by omega)).mp c32
    refine br_t c32 (nm_r (nI_1 j) ?_)
    have fin : ∀ m' kn' cv' ca' cb' cs' co', m' ≤ j + 1 → jt_Ck (kn', cv', ca', cb', cs', co') (32 * t) m' → jt_Snd (ops, xs, ys, zs, sz) (kn', cv', ca', cb', cs', co') t (se t) m' (j + 1) pl S → jt_Tok (ops, xs, ys, zs, sz) (kn', cv', ca', cb', cs', co') ts tc se sd → ((pl = nI t → (vp_in (nI t) 24 ∧ (∀ q1, q1 = upd ts (nI t).toNatClampNeg (nI (j + 1)) → (vp_in (nI t) 24 ∧ (∀ q2, q2 = upd tc (nI t).toNatClampNeg (nI m') → (vp_in (nI t) 24 ∧ (∀ q3, q3 = upd sd (nI t).toNatClampNeg S → post (th, sz, S, pr, pl, ct, st, -1, nI (j + 1), nI m', ops, xs, ys, zs, N, K, ht, q1, q2, se, q3, kn', cv', ca', cb', cs', co')))))))) ∧ (¬ pl = nI t → post (th, sz, S, pr, pl, ct, st, nI t, nI (j + 1), nI m', ops, xs, ys, zs, N, K, ht, ts, tc, se, sd, kn', cv', ca', cb', cs', co'))) := by
      intro m' kn' cv' ca' cb' cs' co' hm' hc' hS' hT'
      by_cases cp : pl = nI t
      · refine br_t cp ⟨hit, nm_e ⟨hit, nm_e ⟨hit, nm_e (k _ _ _ _ _ _ _ _ _ _ _ _ ?_ (Or.inl rfl))⟩⟩⟩
        rw [et]
        rw [cp] at hS'
        exact jt_Tok_new hT' (by omega) (by omega) hm' hc' hS'
      · exact br_f cp (k _ _ _ _ _ _ _ _ _ _ _ _ hT' (Or.inr ⟨t, j + 1, m', ht', rfl, rfl, rfl, h0, by omega, hm', hc', hS'⟩))
    refine jx_compile hi ht' (by omega) eo ex ey ez h (fun en => ?_) (fun k v a b es => ?_)
    · subst eN eS eL
      exact fin m kn cv ca cb cs co (by omega) hc (jt_rec_none hP hz e eo ex ey ez h hf w en hS) hT
    · subst eN eS eL
      refine fin (m + 1) _ _ _ _ _ _ (by omega) ?_ (jt_rec_some hP hz e eo ex ey ez h hf w es hS) (jt_Tok_code h0 (by omega) hT)
      refine jt_Ck_1 (jt_Ck_congr (jt_Ceq_upd (Or.inr (Nat.le_refl _))) hc) ?_
      dsimp only
      rw [pk_us, pk_us, pk_us, pk_us]
      exact jt_cd_cok h es
  · exact br_f c32 (k _ _ _ _ _ _ _ _ _ _ _ _ hT (Or.inl rfl))
theorem jx_warm {post : SX → Prop} {t : Nat} (ht' : t < 24) (hT : jt_Tok (ops, xs, ys, zs, sz) (kn, cv, ca, cb, cs, co) ts tc se sd) (ea : an = -1)
    (k : ∀ an' rs' rk' ht' ts' se', jt_Tok (ops, xs, ys, zs, sz) (kn, cv, ca, cb, cs, co) ts' tc se' sd → jt_Rec (ops, xs, ys, zs, sz) (kn, cv, ca, cb, cs, co) ts' se' an' rs' rk' (nI t) S → post (th, sz, S, pr, pl, ct, st, an', rs', rk', ops, xs, ys, zs, N, K, ht', ts', tc, se', sd, kn, cv, ca, cb, cs, co)) : wpX_warm post (th, sz, S, pr, pl, ct, st, an, rs, rk, ops, xs, ys, zs, N, K, ht, ts, tc, se, sd, kn, cv, ca, cb, cs, co) (nI t) := by
  have et : (nI t).toNatClampNeg = t := nI_clamp (by omega)
  have hit : vp_in (nI t) 24 := vp_in_nI ht' (by omega)
  unfold wpX_warm
  refine ⟨hit, hit, nm_e ⟨hit, br_c (fun _ => ⟨hit, nm_e ⟨hit, nm_e ⟨hit, nm_e (k _ _ _ _ _ _ ?_ ?_)⟩⟩⟩) (fun _ => k _ _ _ _ _ _ hT (Or.inl ea))⟩⟩
  · rw [et]
    exact jt_Tok_drop hT
  · rw [et]
    refine Or.inr ⟨t, 0, 0, ht', rfl, rfl, rfl, pk_us, by omega, by omega, jt_Ck_0, ?_⟩
    rw [pk_us]
    exact jt_Snd_z
end
