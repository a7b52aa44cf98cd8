def jt_R (k : Nat) (P : jt_P) (C : jt_C) (ts tc se sd Q : Nat → Int32) (S pl pr : Int32) (N : Nat → Int32) : Prop :=
  jt_Pok P ∧ jt_wf S N ∧ jt_pl pl ∧ (∃ q, q ≤ 60 * k ∧ pr = nI q) ∧ jt_Q Q S ∧ jt_Tok P C ts tc se sd
/-- the same program, machine and output; the sorts packed in X; every trace of X sound; printed at most 60 k -/
def i_Rel (k : Nat) (u : SX) (v : SY) : Prop :=
  ∃ (th sz S pr pl ct st rs rk : Int32) (ops xs ys zs N Q : Nat → Int32) (K : Nat → Int64) (ht ts tc se sd kn cv ca cb cs co : Nat → Int32), u = (th, sz, S, pr, pl, ct, st, -1, rs, rk, ops, xs, ys, zs, N, K, ht, ts, tc, se, sd, kn, cv, ca, cb, cs, co) ∧ v = (sz, pr, pl, ct, st, ops, xs, ys, zs, Q, N, K) ∧ jt_R k (ops, xs, ys, zs, sz) (kn, cv, ca, cb, cs, co) ts tc se sd Q S pl pr N
section
variable {th sz S pr pl ct st rs rk : Int32} {ops xs ys zs N Q : Nat → Int32} {K : Nat → Int64} {ht ts tc se sd kn cv ca cb cs co : Nat → Int32}
theorem jt_mk {k : Nat} (h : jt_R k (ops, xs, ys, zs, sz) (kn, cv, ca, cb, cs, co) ts tc se sd Q S pl pr N) : i_Rel k (th, sz, S, pr, pl, ct, st, -1, rs, rk, ops, xs, ys, zs, N, K, ht, ts, tc, se, sd, kn, cv, ca, cb, cs, co) (sz, pr, pl, ct, st, ops, xs, ys, zs, Q, N, K) :=
  ⟨th, sz, S, pr, pl, ct, st, rs, rk, ops, xs, ys, zs, N, Q, K, ht, ts, tc, se, sd, kn, cv, ca, cb, cs, co, rfl, rfl, h⟩
theorem jt_R_up {k : Nat} {P : jt_P} {C : jt_C} (h : jt_R k P C ts tc se sd Q S pl pr N) : jt_R (k + 5) P C ts tc se sd Q S pl pr N := by
  obtain ⟨h1, h2, h3, ⟨q, hq, e⟩, h5, h6⟩ := h
  exact ⟨h1, h2, h3, ⟨q, by omega, e⟩, h5, h6⟩
theorem jv_run {k T : Nat} {pX : Int32 → SX → Prop} (hk : k + 5 ≤ 2561) (hT : T ≤ 300) (h : jt_R k (ops, xs, ys, zs, sz) (kn, cv, ca, cb, cs, co) ts tc se sd Q S pl pr N)
    (hY : ∀ r u', (∃ n25 : Nat, wY_run_25 (fun r' v' => r' = r ∧ i_Rel (k + 5) u' v') (nI T) n25 0 sz pr pl ct st ops xs ys zs Q N K) → pX r u') : ∃ n11 : Nat, wX_run_11 pX n11 (nI T) 0 th sz S pr pl ct st (-1) rs rk ops xs ys zs N K ht ts tc se sd kn cv ca cb cs co := by
  have hup := jt_R_up h
  obtain ⟨hP, hw, hpl, ⟨q, hq, e⟩, hQ, hTok⟩ := h
  subst e
  by_cases s0 : st = 0
  · subst s0
    have ok : jt_ok (S, (N, K, nI q), pl, ct) := ⟨hw, hpl, q, by omega, rfl⟩
    refine ⟨T + 1, jx_loop hP (T + 1) T 0 S (nI q) pl ct (-1) rs rk N K ht ts tc se sd kn cv ca cb cs co (by omega) (by omega) ok hTok (Or.inl rfl) ?_⟩
    intro S' pr' pl' ct' st' rs' rk' N' K' ht' ts' tc' se' sd' kn' cv' ca' cb' cs' co' hr hT'
    refine hY _ _ ⟨T + 1, jy_loop hT hP T (T + 1) 0 q S pl ct N K Q (by omega) (by omega) ok hQ (by omega) ?_⟩
    intro S2 q2 pl2 ct2 st2 N2 K2 Q2 hr2 hQ2 hq2
    have hok := jt_rs_ok hP T _ ok
    rw [hr] at hr2 hok
    cases hr2
    exact ⟨rfl, jt_mk ⟨hP, hok.1, hok.2.1, ⟨q2, by omega, rfl⟩, hQ2, hT'⟩⟩
  · refine ⟨1, jx_exit (i := 0) (by omega) (Or.inl s0) (hY _ _ ⟨T + 1, ?_⟩)⟩
    exact jy_stay hT s0 ⟨rfl, jt_mk hup⟩ T (T + 1) 0 (by omega) (by omega)
end
theorem i_up {k : Nat} {u : SX} {v : SY} (h : i_Rel k u v) : i_Rel (k + 5) u v := by
  obtain ⟨th, sz, S, pr, pl, ct, st, rs, rk, ops, xs, ys, zs, N, Q, K, ht, ts, tc, se, sd, kn, cv, ca, cb, cs, co, rfl, rfl, h⟩ := h
  exact jt_mk (jt_R_up h)
theorem i_vc0 (k0 : Int32) : wpX_init (fun u => wpY_init (fun v => i_Rel 1 u v) k0) k0 := by
  have R : jt_R 1 ((fun _ => 0), (fun _ => 0), (fun _ => 0), (fun _ => 0), 0) ((fun _ => 0), (fun _ => 0), (fun _ => 0), (fun _ => 0), (fun _ => 0), (fun _ => 0)) (fun _ => 0) (fun _ => 0) (fun _ => 0) (fun _ => 0) (fun _ => 0) 0 0 0 (fun _ => 0) := by
    refine ⟨⟨0, by omega, rfl, fun i h => absurd h (by omega)⟩, jt_wf_0, ⟨0, by omega, rfl⟩, ⟨0, by omega, rfl⟩, ?_, fun t _ hn => absurd rfl hn⟩
    intro v hv
    exact ((by decide +kernel : ∀ v, v < 6 → jt_so 0 (nI v) = 0) v hv).symm
  unfold wpX_init wpX_clamp wpY_init
  exact br_c (fun _ => br_c (fun _ => jt_mk R) (fun _ => jt_mk R)) (fun _ => jt_mk R)
theorem i_vc_emit {k : Nat} {u : SX} {v : SY} (I : i_Rel k u v) (hk : k + 5 ≤ 2561) (v1 : Int32) (v2 : Int32) (v3 : Int32) (v4 : Int32) : wpX_emit (fun r u' => wpY_emit (fun r' v' => r' = r ∧ i_Rel (k + 5) u' v') v v1 v2 v3 v4) u v1 v2 v3 v4 := by
  obtain ⟨th, sz, S, pr, pl, ct, st, rs, rk, ops, xs, ys, zs, N, Q, K, ht, ts, tc, se, sd, kn, cv, ca, cb, cs, co, rfl, rfl, h⟩ := I
  have hup := jt_R_up h
  obtain ⟨⟨n, hn, e, hi⟩, hw, hpl, ⟨q, hq, eq⟩, hQ, hT⟩ := h
  have e' : sz = nI n := e
  subst e' eq
  unfold wpX_emit
  by_cases c : n = 24
  · subst c
    refine br_f (nI_nlt (b := 24) (by omega) (by omega)) ?_
    unfold wpY_emit
    exact br_t rfl ⟨rfl, jt_mk hup⟩
  · refine br_t (nI_lt (b := 24) (by omega) (by omega)) ?_
    have n24 : ¬ nI n = 24 := fun hh => c ((nI_eq (a := n) (b := 24) (by omega) (by omega)).mp hh)
    refine jx_isIns (fun hio => ?_) (fun hio => ?_)
    · refine br_f (by decide) (jx_write (by omega) (nm_r (nI_1 n) ?_))
      unfold wpY_emit
      refine br_f n24 (jy_fits (fun _ => br_f (by decide) (jy_write (by omega) (nm_r (nI_1 n) ⟨rfl, jt_mk ?_⟩))) (fun hn => absurd hio hn))
      have hP : jt_Pok (ops, xs, ys, zs, nI n) := ⟨n, hn, rfl, hi⟩
      refine ⟨⟨n + 1, by omega, rfl, ?_⟩, hw, hpl, ⟨q, by omega, rfl⟩, hQ, jt_Tok_mono hP (jt_sp_emit (by omega)) hT⟩
      intro i hin
      by_cases ci : i = n
      · subst ci
        show jt_iok (upd ops i v1 i) (upd xs i v2 i) (upd ys i v3 i) (upd zs i v4 i)
        rw [pk_us, pk_us, pk_us, pk_us]
        exact hio
      · show jt_iok (upd ops n v1 i) (upd xs n v2 i) (upd ys n v3 i) (upd zs n v4 i)
        rw [pk_un ci, pk_un ci, pk_un ci, pk_un ci]
        exact hi i (by omega)
    · refine br_t rfl ?_
      unfold wpY_emit
      exact br_f n24 (jy_fits (fun hh => absurd hh hio) (fun _ => br_t rfl ⟨rfl, jt_mk hup⟩))
theorem i_vc_replace {k : Nat} {u : SX} {v : SY} (I : i_Rel k u v) (hk : k + 5 ≤ 2561) (v1 : Int32) (v2 : Int32) (v3 : Int32) (v4 : Int32) : wpX_replace (fun r u' => wpY_replace (fun r' v' => r' = r ∧ i_Rel (k + 5) u' v') v v1 v2 v3 v4) u v1 v2 v3 v4 := by
  obtain ⟨th, sz, S, pr, pl, ct, st, rs, rk, ops, xs, ys, zs, N, Q, K, ht, ts, tc, se, sd, kn, cv, ca, cb, cs, co, rfl, rfl, h⟩ := I
  have hup := jt_R_up h
  obtain ⟨⟨n, hn, e, hi⟩, hw, hpl, ⟨q, hq, eq⟩, hQ, hT⟩ := h
  have e' : sz = nI n := e
  subst e' eq
  unfold wpX_replace
  rcases pk_ix v1 (n := n) (by omega) with c | c | ⟨j, hj, rfl⟩
  · refine br_t c ?_
    unfold wpY_replace
    exact br_t c ⟨rfl, jt_mk hup⟩
  · have c0 : ¬ v1 < 0 := fun hh => nI_pos (n := n) (by omega) (Int32.lt_of_le_of_lt c hh)
    refine br_f c0 (br_f (Int32.not_lt.mpr c) ?_)
    unfold wpY_replace
    exact br_f c0 (br_t c ⟨rfl, jt_mk hup⟩)
  · have c0 : ¬ nI j < 0 := nI_pos (by omega)
    have hin : vp_in (nI j) 24 := vp_in_nI (by omega) (by omega)
    have hlt : nI j < nI n := nI_lt hj (by omega)
    have Y0 : ∀ P : Prop, P → P := fun _ hh => hh
    refine br_f c0 (br_t hlt ⟨hin, jx_three (fun t1 => br_f (by decide) ?_) (fun t1 => br_t rfl (jx_three (fun t2 => br_f (by decide) ?_) (fun t2 => br_t rfl (jx_isIns (fun hio => br_f (by decide) (jx_write (by omega) (jx_forget (fun ht' ts' hz => ?_)))) (fun hio => br_t rfl ?_)))))⟩)
    · unfold wpY_replace
      exact br_f c0 (br_f (Int32.not_le.mpr hlt) ⟨hin, jy_typed (fun _ => br_f (by decide) ⟨rfl, jt_mk hup⟩) (fun hh => absurd t1 hh)⟩)
    · unfold wpY_replace
      exact br_f c0 (br_f (Int32.not_le.mpr hlt) ⟨hin, jy_typed (fun hh => absurd hh t1) (fun _ => br_t rfl (jy_typed (fun _ => br_f (by decide) ⟨rfl, jt_mk hup⟩) (fun hh => absurd t2 hh)))⟩)
    · unfold wpY_replace
      refine br_f c0 (br_f (Int32.not_le.mpr hlt) ⟨hin, jy_typed (fun hh => absurd hh t1) (fun _ => br_t rfl (jy_typed (fun hh => absurd hh t2) (fun _ => br_t rfl (jy_fits (fun _ => br_f (by decide) (jy_write (by omega) ⟨rfl, jt_mk ?_⟩)) (fun hh => absurd hio hh)))))⟩)
      refine ⟨⟨n, hn, rfl, ?_⟩, hw, hpl, ⟨q, by omega, rfl⟩, hQ, fun t h24 hne => absurd (hz t h24) hne⟩
      intro i hin
      by_cases ci : i = j
      · subst ci
        show jt_iok (upd ops i v2 i) (upd xs i v3 i) (upd ys i v4 i) (upd zs i 0 i)
        rw [pk_us, pk_us, pk_us, pk_us]
        exact hio
      · show jt_iok (upd ops j v2 i) (upd xs j v3 i) (upd ys j v4 i) (upd zs j 0 i)
        rw [pk_un ci, pk_un ci, pk_un ci, pk_un ci]
        exact hi i hin
    · unfold wpY_replace
      exact br_f c0 (br_f (Int32.not_le.mpr hlt) ⟨hin, jy_typed (fun hh => absurd hh t1) (fun _ => br_t rfl (jy_typed (fun hh => absurd hh t2) (fun _ => br_t rfl (jy_fits (fun hh => absurd hh hio) (fun _ => br_t rfl ⟨rfl, jt_mk hup⟩)))))⟩)
theorem i_vc_restart {k : Nat} {u : SX} {v : SY} (I : i_Rel k u v) (hk : k + 5 ≤ 2561) : wpX_restart (fun u' => wpY_restart (fun v' => i_Rel (k + 5) u' v') v) u := by
  obtain ⟨th, sz, S, pr, pl, ct, st, rs, rk, ops, xs, ys, zs, N, Q, K, ht, ts, tc, se, sd, kn, cv, ca, cb, cs, co, rfl, rfl, h⟩ := I
  obtain ⟨hP, hw, hpl, hq, hQ, hT⟩ := h
  have s0 : ∀ v, v < 6 → jt_so 0 (nI v) = 0 := by decide +kernel
  refine jx_restart (jy_restart (jt_mk ⟨hP, ?_, ⟨0, by omega, rfl⟩, ⟨0, by omega, rfl⟩, ?_, hT⟩))
  · intro v hv
    exact Or.inr (Or.inl ⟨s0 v hv, jt_zr_at N hv⟩)
  · intro v hv
    rw [jt_zr_at Q hv, s0 v hv]
theorem i_vc_put {k : Nat} {u : SX} {v : SY} (I : i_Rel k u v) (hk : k + 5 ≤ 2561) (v1 : Int32) (v2 : Int32) : wpX_put (fun r u' => wpY_put (fun r' v' => r' = r ∧ i_Rel (k + 5) u' v') v v1 v2) u v1 v2 := by
  obtain ⟨th, sz, S, pr, pl, ct, st, rs, rk, ops, xs, ys, zs, N, Q, K, ht, ts, tc, se, sd, kn, cv, ca, cb, cs, co, rfl, rfl, h⟩ := I
  have hup := jt_R_up h
  obtain ⟨hP, hw, hpl, hq, hQ, hT⟩ := hup
  unfold wpX_put
  refine jx_isVar (fun hv => br_f (by decide) (jx_assign hv ?_)) (fun hv => br_t rfl ?_)
  · unfold wpY_put
    exact jy_isVar (fun _ => br_f (by decide) (jy_give hv ⟨rfl, jt_mk ⟨hP, jt_wf_up hw hv (Or.inl rfl), hpl, hq, jt_Q_up hQ hv jt_sr1, hT⟩⟩)) (fun hh => absurd hv hh)
  · unfold wpY_put
    exact jy_isVar (fun hh => absurd hh hv) (fun _ => br_t rfl ⟨rfl, jt_mk ⟨hP, hw, hpl, hq, hQ, hT⟩⟩)
theorem i_vc_run {k : Nat} {u : SX} {v : SY} (I : i_Rel k u v) (hk : k + 5 ≤ 2561) (v1 : Int32) : wpX_run (fun r u' => wpY_run (fun r' v' => r' = r ∧ i_Rel (k + 5) u' v') v v1) u v1 := by
  obtain ⟨th, sz, S, pr, pl, ct, st, rs, rk, ops, xs, ys, zs, N, Q, K, ht, ts, tc, se, sd, kn, cv, ca, cb, cs, co, rfl, rfl, h⟩ := I
  unfold wpX_run
  rcases pk_ix v1 (n := 301) (by omega) with c | c | ⟨T, hT, rfl⟩
  · have c0 : ¬ 0 ≤ v1 := Int32.not_le.mpr c
    unfold wpX_clamp
    refine br_f c0 (jv_run (T := 0) hk (by omega) h (fun r u' hh => ?_))
    unfold wpY_run
    exact br_f c0 hh
  · have c0 : 0 ≤ v1 := Int32.le_trans (by decide) c
    have c3 : ¬ v1 ≤ 300 := fun hh => nI_ge (a := 300) (b := 301) (by omega) (by omega) (Int32.le_trans c hh)
    unfold wpX_clamp
    refine br_t c0 (br_f c3 (jv_run (T := 300) hk (by omega) h (fun r u' hh => ?_)))
    unfold wpY_run
    exact br_t c0 (br_f c3 hh)
  · have c0 : 0 ≤ nI T := nI_pos' (by omega)
    have c3 : nI T ≤ 300 := nI_le (b := 300) (by omega) (by omega)
    unfold wpX_clamp
    refine br_t c0 (br_t c3 (jv_run (T := T) hk (by omega) h (fun r u' hh => ?_)))
    unfold wpY_run
    exact br_t c0 (br_t c3 hh)
theorem i_vc_status {k : Nat} {u : SX} {v : SY} (I : i_Rel k u v) (hk : k + 5 ≤ 2561) : wpX_status (fun r => wpY_status (fun r' => r' = r ∧ i_Rel (k + 5) u v) v) u := by
  obtain ⟨th, sz, S, pr, pl, ct, st, rs, rk, ops, xs, ys, zs, N, Q, K, ht, ts, tc, se, sd, kn, cv, ca, cb, cs, co, rfl, rfl, h⟩ := I
  exact ⟨rfl, jt_mk (jt_R_up h)⟩
theorem i_vc_place {k : Nat} {u : SX} {v : SY} (I : i_Rel k u v) (hk : k + 5 ≤ 2561) : wpX_place (fun r => wpY_place (fun r' => r' = r ∧ i_Rel (k + 5) u v) v) u := by
  obtain ⟨th, sz, S, pr, pl, ct, st, rs, rk, ops, xs, ys, zs, N, Q, K, ht, ts, tc, se, sd, kn, cv, ca, cb, cs, co, rfl, rfl, h⟩ := I
  exact ⟨rfl, jt_mk (jt_R_up h)⟩
theorem i_vc_count {k : Nat} {u : SX} {v : SY} (I : i_Rel k u v) (hk : k + 5 ≤ 2561) : wpX_count (fun r => wpY_count (fun r' => r' = r ∧ i_Rel (k + 5) u v) v) u := by
  obtain ⟨th, sz, S, pr, pl, ct, st, rs, rk, ops, xs, ys, zs, N, Q, K, ht, ts, tc, se, sd, kn, cv, ca, cb, cs, co, rfl, rfl, h⟩ := I
  exact ⟨rfl, jt_mk (jt_R_up h)⟩
theorem i_vc_sort {k : Nat} {u : SX} {v : SY} (I : i_Rel k u v) (hk : k + 5 ≤ 2561) (v1 : Int32) : wpX_sort (fun r => wpY_sort (fun r' => r' = r ∧ i_Rel (k + 5) u v) v v1) u v1 := by
  obtain ⟨th, sz, S, pr, pl, ct, st, rs, rk, ops, xs, ys, zs, N, Q, K, ht, ts, tc, se, sd, kn, cv, ca, cb, cs, co, rfl, rfl, h⟩ := I
  unfold wpX_sort
  refine jx_isVar (fun hv => br_f (by decide) (jx_sortIn ?_)) (fun hv => br_t rfl ?_)
  · unfold wpY_sort
    exact jy_isVar (fun _ => br_f (by decide) ⟨jt_vr_in hv, jt_Q_at h.2.2.2.2.1 hv, jt_mk (jt_R_up h)⟩) (fun hh => absurd hv hh)
  · unfold wpY_sort
    exact jy_isVar (fun hh => absurd hh hv) (fun _ => br_t rfl ⟨rfl, jt_mk (jt_R_up h)⟩)
theorem i_vc_value {k : Nat} {u : SX} {v : SY} (I : i_Rel k u v) (hk : k + 5 ≤ 2561) (v1 : Int32) : wpX_value (fun r => wpY_value (fun r' => r' = r ∧ i_Rel (k + 5) u v) v v1) u v1 := by
  obtain ⟨th, sz, S, pr, pl, ct, st, rs, rk, ops, xs, ys, zs, N, Q, K, ht, ts, tc, se, sd, kn, cv, ca, cb, cs, co, rfl, rfl, h⟩ := I
  unfold wpX_value
  refine jx_isVar (fun hv => br_f (by decide) ⟨jt_vr_in hv, ?_⟩) (fun hv => br_t rfl ?_)
  · unfold wpY_value
    exact jy_isVar (fun _ => br_f (by decide) ⟨jt_vr_in hv, rfl, jt_mk (jt_R_up h)⟩) (fun hh => absurd hv hh)
  · unfold wpY_value
    exact jy_isVar (fun hh => absurd hh hv) (fun _ => br_t rfl ⟨rfl, jt_mk (jt_R_up h)⟩)
theorem i_vc_printed {k : Nat} {u : SX} {v : SY} (I : i_Rel k u v) (hk : k + 5 ≤ 2561) : wpX_printed (fun r => wpY_printed (fun r' => r' = r ∧ i_Rel (k + 5) u v) v) u := by
  obtain ⟨th, sz, S, pr, pl, ct, st, rs, rk, ops, xs, ys, zs, N, Q, K, ht, ts, tc, se, sd, kn, cv, ca, cb, cs, co, rfl, rfl, h⟩ := I
  exact ⟨rfl, jt_mk (jt_R_up h)⟩
theorem i_vc_output {k : Nat} {u : SX} {v : SY} (I : i_Rel k u v) (hk : k + 5 ≤ 2561) (v1 : Int32) : wpX_output (fun r => wpY_output (fun r' => r' = r ∧ i_Rel (k + 5) u v) v v1) u v1 := by
  obtain ⟨th, sz, S, pr, pl, ct, st, rs, rk, ops, xs, ys, zs, N, Q, K, ht, ts, tc, se, sd, kn, cv, ca, cb, cs, co, rfl, rfl, h⟩ := I
  have R := jt_mk (th := th) (ct := ct) (st := st) (rs := rs) (rk := rk) (K := K) (ht := ht) (jt_R_up h)
  unfold wpX_output
  by_cases c0 : v1 < 0
  · refine br_t c0 ?_
    unfold wpY_output
    exact br_t c0 ⟨rfl, R⟩
  · refine br_f c0 ?_
    by_cases cp : pr ≤ v1
    · refine br_t cp ?_
      unfold wpY_output
      exact br_f c0 (br_t cp ⟨rfl, R⟩)
    · refine br_f cp ?_
      by_cases c : v1 < 24
      · have hin : vp_in v1 24 := by
          obtain ⟨j, hj, rfl⟩ := nI_of c0
          exact vp_in_nI ((nI_ltI (a := j) (b := 24) hj (by omega)).mp c) (by omega)
        refine br_t c ⟨hin, ?_⟩
        unfold wpY_output
        exact br_f c0 (br_f cp (br_f (Int32.not_le.mpr c) ⟨hin, rfl, R⟩))
      · refine br_f c ?_
        unfold wpY_output
        exact br_f c0 (br_f cp (br_t (Int32.not_lt.mp c) ⟨rfl, R⟩))
