/-- what a code that is no guard does -/
def jt_ca (k v a b : Int32) (g : jt_G) : jt_G :=
  if k = 0 then (upd g.1 v.toNatClampNeg a, g.2)
  else if k = 1 then (upd g.1 v.toNatClampNeg (g.1 a.toNatClampNeg), g.2)
  else if k = 2 then (upd g.1 v.toNatClampNeg (g.1 a.toNatClampNeg + g.1 b.toNatClampNeg), g.2)
  else if k = 3 then (upd g.1 v.toNatClampNeg (g.1 a.toNatClampNeg ||| g.1 b.toNatClampNeg), g.2)
  else if k = 4 then (upd g.1 v.toNatClampNeg (g.1 a.toNatClampNeg - g.1 b.toNatClampNeg), g.2)
  else if k = 5 then (upd g.1 v.toNatClampNeg (if g.1 a.toNatClampNeg < g.1 b.toNatClampNeg then 1 else 0), g.2)
  else if k = 6 then (upd g.1 v.toNatClampNeg (if g.1 a.toNatClampNeg = g.1 b.toNatClampNeg then 1 else 0), g.2)
  else (g.1, jt_pK g.2.1 g.2.2 (g.1 v.toNatClampNeg) a, jt_pI g.2.2)
theorem jt_ca_0 (v a b : Int32) (g : jt_G) : jt_ca 0 v a b g = (upd g.1 v.toNatClampNeg a, g.2) := by
  unfold jt_ca
  rw [if_pos rfl]
theorem jt_ca_1 (v a b : Int32) (g : jt_G) : jt_ca 1 v a b g = (upd g.1 v.toNatClampNeg (g.1 a.toNatClampNeg), g.2) := by
  unfold jt_ca
  rw [if_neg (by decide), if_pos rfl]
theorem jt_ca_2 (v a b : Int32) (g : jt_G) : jt_ca 2 v a b g = (upd g.1 v.toNatClampNeg (g.1 a.toNatClampNeg + g.1 b.toNatClampNeg), g.2) := by
  unfold jt_ca
  rw [if_neg (by decide), if_neg (by decide), if_pos rfl]
theorem jt_ca_3 (v a b : Int32) (g : jt_G) : jt_ca 3 v a b g = (upd g.1 v.toNatClampNeg (g.1 a.toNatClampNeg ||| g.1 b.toNatClampNeg), g.2) := by
  unfold jt_ca
  rw [if_neg (by decide), if_neg (by decide), if_neg (by decide), if_pos rfl]
theorem jt_ca_4 (v a b : Int32) (g : jt_G) : jt_ca 4 v a b g = (upd g.1 v.toNatClampNeg (g.1 a.toNatClampNeg - g.1 b.toNatClampNeg), g.2) := by
  unfold jt_ca
  rw [if_neg (by decide), if_neg (by decide), if_neg (by decide), if_neg (by decide), if_pos rfl]
theorem jt_ca_5 (v a b : Int32) (g : jt_G) : jt_ca 5 v a b g = (upd g.1 v.toNatClampNeg (if g.1 a.toNatClampNeg < g.1 b.toNatClampNeg then 1 else 0), g.2) := by
  unfold jt_ca
  rw [if_neg (by decide), if_neg (by decide), if_neg (by decide), if_neg (by decide), if_neg (by decide), if_pos rfl]
theorem jt_ca_6 (v a b : Int32) (g : jt_G) : jt_ca 6 v a b g = (upd g.1 v.toNatClampNeg (if g.1 a.toNatClampNeg = g.1 b.toNatClampNeg then 1 else 0), g.2) := by
  unfold jt_ca
  rw [if_neg (by decide), if_neg (by decide), if_neg (by decide), if_neg (by decide), if_neg (by decide), if_neg (by decide), if_pos rfl]
theorem jt_ca_7 (v a b : Int32) (g : jt_G) : jt_ca 7 v a b g = (g.1, jt_pK g.2.1 g.2.2 (g.1 v.toNatClampNeg) a, jt_pI g.2.2) := by
  unfold jt_ca
  rw [if_neg (by decide), if_neg (by decide), if_neg (by decide), if_neg (by decide), if_neg (by decide), if_neg (by decide), if_neg (by decide)]
/-- a code's operands are fit -/
def jt_cok (k v a b : Int32) : Prop := jt_vr v ∧ (k = 0 ∨ (k = 1 ∧ jt_vr a) ∨ (k = 2 ∧ jt_vr a ∧ jt_vr b) ∨ (k = 3 ∧ jt_vr a ∧ jt_vr b) ∨ (k = 4 ∧ jt_vr a ∧ jt_vr b) ∨ (k = 5 ∧ jt_vr a ∧ jt_vr b) ∨ (k = 6 ∧ jt_vr a ∧ jt_vr b) ∨ k = 7 ∨ k = 8)
def jt_c1 (C : jt_C) (c : Nat) (g : jt_G) : jt_G × Option Nat :=
  if C.1 c = 8 then (if g.1 (C.2.1 c).toNatClampNeg = C.2.2.1 c then (g, none) else (g, some c)) else (jt_ca (C.1 c) (C.2.1 c) (C.2.2.1 c) (C.2.2.2.1 c) g, none)
def jt_c2 (C : jt_C) (c : Nat) : jt_G × Option Nat → jt_G × Option Nat
  | (g, none) => jt_c1 C c g
  | (g, some d) => (g, some d)
def jt_rc (C : jt_C) (b : Nat) : Nat → jt_G → jt_G × Option Nat
  | 0, g => (g, none)
  | m + 1, g => jt_c2 C (b + m) (jt_rc C b m g)
theorem jt_rc_n {C : jt_C} {b m : Nat} {g g1 : jt_G} (h : jt_rc C b m g = (g1, none)) : jt_rc C b (m + 1) g = jt_c1 C (b + m) g1 := by
  show jt_c2 C (b + m) (jt_rc C b m g) = _
  rw [h]
  rfl
theorem jt_rc_s {C : jt_C} {b m d : Nat} {g g1 : jt_G} (h : jt_rc C b m g = (g1, some d)) : jt_rc C b (m + 1) g = (g1, some d) := by
  show jt_c2 C (b + m) (jt_rc C b m g) = _
  rw [h]
  rfl
theorem jt_rc_stay {C : jt_C} {b m d : Nat} {g g1 : jt_G} (h : jt_rc C b m g = (g1, some d)) : ∀ k, jt_rc C b (m + k) g = (g1, some d) := by
  intro k
  induction k with
  | zero => exact h
  | succ k ih => exact jt_rc_s ih
theorem jt_rc_inv {C : jt_C} {b m : Nat} {g g' : jt_G} {o : Option Nat} (h : jt_rc C b (m + 1) g = (g', o)) : (∃ d, o = some d ∧ jt_rc C b m g = (g', some d)) ∨ ∃ g1, jt_rc C b m g = (g1, none) ∧ jt_c1 C (b + m) g1 = (g', o) := by
  cases e : jt_rc C b m g with
  | mk g1 o1 =>
    cases o1 with
    | none =>
      rw [jt_rc_n e] at h
      exact Or.inr ⟨g1, rfl, h⟩
    | some d =>
      rw [jt_rc_s e] at h
      cases h
      exact Or.inl ⟨d, rfl, rfl⟩
theorem jt_c1_leave {C : jt_C} {c d : Nat} {g g' : jt_G} (h : jt_c1 C c g = (g', some d)) : d = c := by
  unfold jt_c1 at h
  by_cases c8 : C.1 c = 8
  · rw [if_pos c8] at h
    by_cases e : g.1 (C.2.1 c).toNatClampNeg = C.2.2.1 c
    · rw [if_pos e] at h
      cases h
    · rw [if_neg e] at h
      cases h
      rfl
  · rw [if_neg c8] at h
    cases h
theorem jt_rc_lt {C : jt_C} {b : Nat} : ∀ (m : Nat) (g g' : jt_G) (c : Nat), jt_rc C b m g = (g', some c) → b ≤ c ∧ c < b + m := by
  intro m
  induction m with
  | zero =>
    intro g g' c h
    have h' : (g, (none : Option Nat)) = (g', some c) := h
    cases h'
  | succ m ih =>
    intro g g' c h
    rcases jt_rc_inv h with ⟨d, ed, h1⟩ | ⟨g1, _, h2⟩
    · cases ed
      have := ih g g' c h1
      omega
    · have := jt_c1_leave h2
      omega
/-- the codes b .. b + m - 1 are the same -/
def jt_Ceq (C C' : jt_C) (b m : Nat) : Prop := ∀ c, b ≤ c → c < b + m → C.1 c = C'.1 c ∧ C.2.1 c = C'.2.1 c ∧ C.2.2.1 c = C'.2.2.1 c ∧ C.2.2.2.1 c = C'.2.2.2.1 c ∧ C.2.2.2.2.1 c = C'.2.2.2.2.1 c ∧ C.2.2.2.2.2 c = C'.2.2.2.2.2 c
theorem jt_c1_congr {C C' : jt_C} {c : Nat} {g : jt_G} (h1 : C.1 c = C'.1 c) (h2 : C.2.1 c = C'.2.1 c) (h3 : C.2.2.1 c = C'.2.2.1 c) (h4 : C.2.2.2.1 c = C'.2.2.2.1 c) : jt_c1 C c g = jt_c1 C' c g := by
  unfold jt_c1
  rw [h1, h2, h3, h4]
theorem jt_rc_congr {C C' : jt_C} {b : Nat} : ∀ (m : Nat) (g : jt_G), jt_Ceq C C' b m → jt_rc C b m g = jt_rc C' b m g := by
  intro m
  induction m with
  | zero => exact fun g _ => rfl
  | succ m ih =>
    intro g h
    have i := ih g (fun c h1 h2 => h c h1 (by omega))
    obtain ⟨a1, a2, a3, a4, _, _⟩ := h (b + m) (by omega) (by omega)
    cases e : jt_rc C b m g with
    | mk g1 o1 =>
      rw [e] at i
      cases o1 with
      | none => rw [jt_rc_n e, jt_rc_n i.symm]; exact jt_c1_congr a1 a2 a3 a4
      | some d => rw [jt_rc_s e, jt_rc_s i.symm]
/-- from place t with sorts S0, the m codes of t do what j steps do: to place p, with sorts s -/
def jt_Snd (P : jt_P) (C : jt_C) (t : Nat) (S0 : Int32) (m j : Nat) (p s : Int32) : Prop :=
  ∀ (g : jt_G) (ct : Int32), jt_ok (S0, g, nI t, ct) →
    (∀ g', jt_rc C (32 * t) m g = (g', none) → jt_it P j (S0, g, nI t, ct) = some (s, g', p, ct + nI j)) ∧
    (∀ g' c, jt_rc C (32 * t) m g = (g', some c) → ∃ q, 1 ≤ q ∧ q ≤ j ∧ C.2.2.2.2.1 c = nI q ∧ jt_it P q (S0, g, nI t, ct) = some (C.2.2.2.2.2 c, g', C.2.2.2.1 c, ct + nI q))
theorem jt_Snd_z {P : jt_P} {C : jt_C} {t : Nat} {S0 : Int32} : jt_Snd P C t S0 0 0 (nI t) S0 := by
  intro g ct _
  refine ⟨fun g' e => ?_, fun g' c e => ?_⟩
  · have e' : (g, (none : Option Nat)) = (g', none) := e
    cases e'
    show some (S0, g, nI t, ct) = some (S0, g, nI t, ct + nI 0)
    rw [nI_0, Int32.add_zero]
  · have e' : (g, (none : Option Nat)) = (g', some c) := e
    cases e'
theorem jt_Snd_congr {P : jt_P} {C C' : jt_C} {t m j : Nat} {S0 p s : Int32} (hC : jt_Ceq C C' (32 * t) m) (h : jt_Snd P C t S0 m j p s) : jt_Snd P C' t S0 m j p s := by
  intro g ct hg
  obtain ⟨h1, h2⟩ := h g ct hg
  rw [jt_rc_congr m g hC] at h1 h2
  refine ⟨h1, fun g' c e => ?_⟩
  obtain ⟨q, q1, qj, e1, e2⟩ := h2 g' c e
  obtain ⟨b1, b2⟩ := jt_rc_lt m g g' c e
  obtain ⟨_, _, _, a4, a5, a6⟩ := hC c b1 b2
  rw [a5] at e1
  rw [a4, a6] at e2
  exact ⟨q, q1, qj, e1, e2⟩
theorem jt_Snd_mono {P P' : jt_P} {C : jt_C} {t m j : Nat} {S0 p s : Int32} (hP : jt_Pok P) (hx : ∀ M M', jt_ok M → jt_sp P M = .inl M' → jt_sp P' M = .inl M') (h : jt_Snd P C t S0 m j p s) : jt_Snd P' C t S0 m j p s := by
  intro g ct hg
  obtain ⟨h1, h2⟩ := h g ct hg
  refine ⟨fun g' e => jt_it_mono hP hx j _ _ hg (h1 g' e), fun g' c e => ?_⟩
  obtain ⟨q, q1, qj, e1, e2⟩ := h2 g' c e
  exact ⟨q, q1, qj, e1, jt_it_mono hP hx q _ _ hg e2⟩
theorem jt_ct (ct : Int32) (j : Nat) : ct + nI j + 1 = ct + nI (j + 1) := by rw [Int32.add_assoc, nI_1]
/-- one more step without a code -/
theorem jt_Snd_0 {P : jt_P} {C : jt_C} {t m j : Nat} {S0 p s p' s' : Int32} (hP : jt_Pok P) (h : jt_Snd P C t S0 m j p s) (hx : ∀ (g : jt_G) (ct : Int32), jt_ok (s, g, p, ct) → jt_sp P (s, g, p, ct) = .inl (s', g, p', ct + 1)) : jt_Snd P C t S0 m (j + 1) p' s' := by
  intro g ct hg
  obtain ⟨h1, h2⟩ := h g ct hg
  refine ⟨fun g' e => ?_, fun g' c e => ?_⟩
  · have i1 := h1 g' e
    rw [← jt_ct]
    exact jt_it_c i1 (hx g' _ (jt_it_ok hP j _ _ hg i1))
  · obtain ⟨q, q1, qj, e1, e2⟩ := h2 g' c e
    exact ⟨q, q1, by omega, e1, e2⟩
/-- one more step with a code -/
theorem jt_Snd_1 {P : jt_P} {C : jt_C} {t m j : Nat} {S0 p s p' s' : Int32} (hP : jt_Pok P) (h : jt_Snd P C t S0 m j p s) (hs : C.2.2.2.2.1 (32 * t + m) = nI (j + 1)) (ho : C.2.2.2.2.2 (32 * t + m) = s')
    (hx : ∀ (g : jt_G) (ct : Int32), jt_ok (s, g, p, ct) → ∃ g2, (jt_c1 C (32 * t + m) g = (g2, none) ∧ jt_sp P (s, g, p, ct) = .inl (s', g2, p', ct + 1)) ∨ (jt_c1 C (32 * t + m) g = (g2, some (32 * t + m)) ∧ jt_sp P (s, g, p, ct) = .inl (s', g2, C.2.2.2.1 (32 * t + m), ct + 1))) : jt_Snd P C t S0 (m + 1) (j + 1) p' s' := by
  intro g ct hg
  obtain ⟨h1, h2⟩ := h g ct hg
  refine ⟨fun g' e => ?_, fun g' c e => ?_⟩
  · rcases jt_rc_inv e with ⟨d, ed, _⟩ | ⟨g1, e1, e2⟩
    · cases ed
    · have i1 := h1 g1 e1
      obtain ⟨g2, ⟨a, b⟩ | ⟨a, b⟩⟩ := hx g1 _ (jt_it_ok hP j _ _ hg i1)
      · rw [a] at e2
        cases e2
        rw [← jt_ct]
        exact jt_it_c i1 b
      · rw [a] at e2
        cases e2
  · rcases jt_rc_inv e with ⟨d, ed, e1⟩ | ⟨g1, e1, e2⟩
    · cases ed
      obtain ⟨q, q1, qj, e3, e4⟩ := h2 g' c e1
      exact ⟨q, q1, by omega, e3, e4⟩
    · have i1 := h1 g1 e1
      obtain ⟨g2, ⟨a, b⟩ | ⟨a, b⟩⟩ := hx g1 _ (jt_it_ok hP j _ _ hg i1)
      · rw [a] at e2
        cases e2
      · rw [a] at e2
        cases e2
        refine ⟨j + 1, by omega, by omega, hs, ?_⟩
        rw [← jt_ct, ho]
        exact jt_it_c i1 b
/-- what compile adds, against the step it was made from -/
theorem jt_cd_none {op x y z i S : Int32} {N : Nat → Int32} {g : jt_G} (h : jt_iok op x y z) (w : jt_wf S N) (wg : jt_wf S g.1) (hc : jt_cd op x y z i S (jt_eN op x y z S N) = none) : jt_eg op x y z S g = g ∧ jt_eL op x y i S g.1 = jt_eL op x y i S N := by
  unfold jt_eg
  rcases h with ⟨rfl, hx⟩ | ⟨rfl, hx⟩ | ⟨rfl, hx⟩ | ⟨rfl, hx, hy⟩ | ⟨rfl, hx, hy, hz⟩ | ⟨rfl, hx, hy, hz⟩ | ⟨rfl, hx, hy, hz⟩ | ⟨rfl, hx, hy, hz⟩ | ⟨rfl, hx, hy⟩ | ⟨rfl, hx⟩ | ⟨rfl, hx⟩
  · rw [jt_cd_0] at hc; cases hc
  · rw [jt_cd_1] at hc; cases hc
  · rw [jt_cd_2] at hc; cases hc
  · rw [jt_cd_3] at hc; cases hc
  · rw [jt_cd_4] at hc; cases hc
  · rw [jt_cd_5] at hc; cases hc
  · rw [jt_cd_6] at hc; cases hc
  · rw [jt_cd_7] at hc
    by_cases c : jt_so S y = jt_so S z
    · rw [if_pos c] at hc; cases hc
    · rw [if_neg c] at hc; cases hc
  · rw [jt_cd_8] at hc
    rw [jt_eN_8, jt_eK_8, jt_eP_8, jt_eL_8, jt_eL_8]
    refine ⟨rfl, ?_⟩
    by_cases c : jt_so S x = 2
    · rw [if_pos c] at hc; cases hc
    · have v1 := jt_wf_at wg hx
      have v2 := jt_wf_at w hx
      rcases v1 with a | ⟨a, b⟩ | ⟨a, _⟩
      · rw [if_neg (fun z => z.1 a), if_neg (fun z => z.1 a)]
      · rw [a] at v2
        have a1 : ¬ jt_so S x = 1 := by rw [a]; decide
        rw [if_pos ⟨a1, b⟩, if_pos ⟨a1, jt_vs0 v2⟩]
      · exact absurd a c
  · rw [jt_eN_9, jt_eK_9, jt_eP_9, jt_eL_9, jt_eL_9]
    exact ⟨rfl, rfl⟩
  · rw [jt_cd_10] at hc; cases hc
theorem jt_cd_cok {op x y z i S k v a b : Int32} {N' : Nat → Int32} (h : jt_iok op x y z) (hc : jt_cd op x y z i S N' = some (k, v, a, b)) : jt_cok k v a b := by
  rcases h with ⟨rfl, hx⟩ | ⟨rfl, hx⟩ | ⟨rfl, hx⟩ | ⟨rfl, hx, hy⟩ | ⟨rfl, hx, hy, hz⟩ | ⟨rfl, hx, hy, hz⟩ | ⟨rfl, hx, hy, hz⟩ | ⟨rfl, hx, hy, hz⟩ | ⟨rfl, hx, hy⟩ | ⟨rfl, hx⟩ | ⟨rfl, hx⟩
  · rw [jt_cd_0] at hc; cases hc; exact ⟨hx, by simp⟩
  · rw [jt_cd_1] at hc; cases hc; exact ⟨hx, by simp⟩
  · rw [jt_cd_2] at hc; cases hc; exact ⟨hx, by simp⟩
  · rw [jt_cd_3] at hc; cases hc; exact ⟨hx, by simp [hy]⟩
  · rw [jt_cd_4] at hc
    by_cases c : jt_so S y = 1
    · rw [if_pos c] at hc; cases hc; exact ⟨hx, by simp [hy, hz]⟩
    · rw [if_neg c] at hc; cases hc; exact ⟨hx, by simp [hy, hz]⟩
  · rw [jt_cd_5] at hc; cases hc; exact ⟨hx, by simp [hy, hz]⟩
  · rw [jt_cd_6] at hc; cases hc; exact ⟨hx, by simp [hy, hz]⟩
  · rw [jt_cd_7] at hc
    by_cases c : jt_so S y = jt_so S z
    · rw [if_pos c] at hc; cases hc; exact ⟨hx, by simp [hy, hz]⟩
    · rw [if_neg c] at hc; cases hc; exact ⟨hx, by simp⟩
  · rw [jt_cd_8] at hc
    by_cases c : jt_so S x = 2
    · rw [if_pos c] at hc; cases hc; exact ⟨hx, by simp⟩
    · rw [if_neg c] at hc; cases hc
  · rw [jt_cd_9] at hc; cases hc
  · rw [jt_cd_10] at hc; cases hc; exact ⟨hx, by simp⟩
/-- a code that is no guard does the step; a guard says which way the step goes -/
theorem jt_cd_some {op x y z i S k v a b : Int32} {N : Nat → Int32} {g : jt_G} (h : jt_iok op x y z) (hf : ¬ jt_fl op y z S) (w : jt_wf S N) (wg : jt_wf S g.1) (hc : jt_cd op x y z i S (jt_eN op x y z S N) = some (k, v, a, b)) : (¬ k = 8 ∧ jt_ca k v a b g = jt_eg op x y z S g ∧ jt_eL op x y i S g.1 = jt_eL op x y i S N) ∨ (k = 8 ∧ jt_eg op x y z S g = g ∧ (g.1 v.toNatClampNeg = a → jt_eL op x y i S g.1 = jt_eL op x y i S N) ∧ (¬ g.1 v.toNatClampNeg = a → jt_eL op x y i S g.1 = b)) := by
  unfold jt_eg
  rcases h with ⟨rfl, hx⟩ | ⟨rfl, hx⟩ | ⟨rfl, hx⟩ | ⟨rfl, hx, hy⟩ | ⟨rfl, hx, hy, hz⟩ | ⟨rfl, hx, hy, hz⟩ | ⟨rfl, hx, hy, hz⟩ | ⟨rfl, hx, hy, hz⟩ | ⟨rfl, hx, hy⟩ | ⟨rfl, hx⟩ | ⟨rfl, hx⟩
  · rw [jt_cd_0] at hc; cases hc
    rw [jt_ca_0, jt_eN_0, jt_eN_0, jt_eK_0, jt_eP_0, jt_eL_0, jt_eL_0, pk_us]
    exact Or.inl ⟨by decide, rfl, rfl⟩
  · rw [jt_cd_1] at hc; cases hc
    rw [jt_ca_0, jt_eN_1, jt_eN_1, jt_eK_1, jt_eP_1, jt_eL_1, jt_eL_1, pk_us]
    exact Or.inl ⟨by decide, rfl, rfl⟩
  · rw [jt_cd_2] at hc; cases hc
    rw [jt_ca_0, jt_eN_2, jt_eN_2, jt_eK_2, jt_eP_2, jt_eL_2, jt_eL_2, pk_us]
    exact Or.inl ⟨by decide, rfl, rfl⟩
  · rw [jt_cd_3] at hc; cases hc
    rw [jt_ca_1, jt_eN_3, jt_eK_3, jt_eP_3, jt_eL_3, jt_eL_3]
    exact Or.inl ⟨by decide, rfl, rfl⟩
  · rw [jt_cd_4] at hc
    by_cases c : jt_so S y = 1
    · rw [if_pos c] at hc; cases hc
      rw [jt_ca_2, jt_eN_4, jt_eK_4, jt_eP_4, jt_eL_4, jt_eL_4, if_pos c]
      exact Or.inl ⟨by decide, rfl, rfl⟩
    · rw [if_neg c] at hc; cases hc
      rw [jt_ca_3, jt_eN_4, jt_eK_4, jt_eP_4, jt_eL_4, jt_eL_4, if_neg c]
      exact Or.inl ⟨by decide, rfl, rfl⟩
  · rw [jt_cd_5] at hc; cases hc
    rw [jt_ca_4, jt_eN_5, jt_eK_5, jt_eP_5, jt_eL_5, jt_eL_5]
    exact Or.inl ⟨by decide, rfl, rfl⟩
  · rw [jt_cd_6] at hc; cases hc
    rw [jt_ca_5, jt_eN_6, jt_eK_6, jt_eP_6, jt_eL_6, jt_eL_6]
    exact Or.inl ⟨by decide, rfl, rfl⟩
  · rw [jt_cd_7] at hc
    by_cases c : jt_so S y = jt_so S z
    · rw [if_pos c] at hc; cases hc
      rw [jt_ca_6, jt_eN_7, jt_eK_7, jt_eP_7, jt_eL_7, jt_eL_7]
      refine Or.inl ⟨by decide, ?_, rfl⟩
      by_cases d : g.1 y.toNatClampNeg = g.1 z.toNatClampNeg
      · rw [if_pos d, if_pos ⟨c, d⟩]
      · rw [if_neg d, if_neg (fun e => d e.2)]
    · rw [if_neg c] at hc; cases hc
      rw [jt_ca_0, jt_eN_7, jt_eK_7, jt_eP_7, jt_eL_7, jt_eL_7]
      refine Or.inl ⟨by decide, ?_, rfl⟩
      rw [if_neg (fun e => c e.1)]
  · rw [jt_cd_8, jt_eN_8] at hc
    by_cases c : jt_so S x = 2
    · rw [if_pos c] at hc; cases hc
      rw [jt_eN_8, jt_eK_8, jt_eP_8, jt_eL_8, jt_eL_8]
      have a1 : ¬ jt_so S x = 1 := by rw [c]; decide
      refine Or.inr ⟨rfl, rfl, fun e => by rw [e], fun e => ?_⟩
      have v1 := jt_wf_at wg hx
      have v2 := jt_wf_at w hx
      rw [c] at v1 v2
      rcases jt_vs2 v2 with r2 | r2
      · rw [if_pos r2]
        rw [r2] at e
        exact if_neg (fun z => e z.2)
      · have n2 : ¬ N x.toNatClampNeg = 0 := by rw [r2]; decide
        rw [if_neg n2]
        rw [r2] at e
        rcases jt_vs2 v1 with r1 | r1
        · exact if_pos ⟨a1, r1⟩
        · exact absurd r1 e
    · rw [if_neg c] at hc; cases hc
  · rw [jt_cd_9] at hc; cases hc
  · rw [jt_cd_10] at hc; cases hc
    rw [jt_ca_7, jt_eN_10, jt_eK_10, jt_eP_10, jt_eL_10, jt_eL_10]
    exact Or.inl ⟨by decide, rfl, rfl⟩
