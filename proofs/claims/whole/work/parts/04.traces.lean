/-- the codes b .. b + m - 1 have fit operands -/
def jt_Ck (C : jt_C) (b m : Nat) : Prop := ∀ c, b ≤ c → c < b + m → jt_cok (C.1 c) (C.2.1 c) (C.2.2.1 c) (C.2.2.2.1 c)
def jt_T1 (P : jt_P) (C : jt_C) (t : Nat) (js ms S0 s : Int32) : Prop := ∃ j m, js = nI j ∧ ms = nI m ∧ 1 ≤ j ∧ j ≤ 32 ∧ m ≤ j ∧ jt_Ck C (32 * t) m ∧ jt_Snd P C t S0 m j (nI t) s
/-- every trace that stands is sound -/
def jt_Tok (P : jt_P) (C : jt_C) (ts tc se sd : Nat → Int32) : Prop := ∀ t, t < 24 → ¬ ts t = 0 → jt_T1 P C t (ts t) (tc t) (se t) (sd t)
/-- so is what is recorded so far -/
def jt_Rec (P : jt_P) (C : jt_C) (ts se : Nat → Int32) (an rs rk pl S : Int32) : Prop := an = -1 ∨ ∃ t j m, t < 24 ∧ an = nI t ∧ rs = nI j ∧ rk = nI m ∧ ts t = 0 ∧ j ≤ 32 ∧ m ≤ j ∧ jt_Ck C (32 * t) m ∧ jt_Snd P C t (se t) m j pl S
theorem jt_Ck_0 {C : jt_C} {b : Nat} : jt_Ck C b 0 := fun c h1 h2 => absurd h2 (by omega)
theorem jt_Ck_congr {C C' : jt_C} {b m : Nat} (h : jt_Ceq C C' b m) (hk : jt_Ck C b m) : jt_Ck C' b m := by
  intro c h1 h2
  obtain ⟨a1, a2, a3, a4, _, _⟩ := h c h1 h2
  rw [← a1, ← a2, ← a3, ← a4]
  exact hk c h1 h2
theorem jt_Ck_1 {C : jt_C} {b m : Nat} (h : jt_Ck C b m) (h1 : jt_cok (C.1 (b + m)) (C.2.1 (b + m)) (C.2.2.1 (b + m)) (C.2.2.2.1 (b + m))) : jt_Ck C b (m + 1) := by
  intro c hb hc
  by_cases e : c = b + m
  · rw [e]; exact h1
  · exact h c hb (by omega)
theorem jt_T1_congr {P : jt_P} {C C' : jt_C} {t : Nat} {js ms S0 s : Int32} (hC : jt_Ceq C C' (32 * t) 32) (h : jt_T1 P C t js ms S0 s) : jt_T1 P C' t js ms S0 s := by
  obtain ⟨j, m, e1, e2, h1, h2, h3, h4, h5⟩ := h
  have hm : jt_Ceq C C' (32 * t) m := fun c a b => hC c a (by omega)
  exact ⟨j, m, e1, e2, h1, h2, h3, jt_Ck_congr hm h4, jt_Snd_congr hm h5⟩
/-- a code written at c leaves the codes elsewhere alone -/
theorem jt_Ceq_upd {kn cv ca cb cs co : Nat → Int32} {k v a b s o : Int32} {c d m : Nat} (h : c < d ∨ d + m ≤ c) : jt_Ceq (kn, cv, ca, cb, cs, co) (upd kn c k, upd cv c v, upd ca c a, upd cb c b, upd cs c s, upd co c o) d m := by
  intro e h1 h2
  have n : e ≠ c := by omega
  exact ⟨(pk_un n).symm, (pk_un n).symm, (pk_un n).symm, (pk_un n).symm, (pk_un n).symm, (pk_un n).symm⟩
theorem jt_Tok_code {P : jt_P} {kn cv ca cb cs co ts tc se sd : Nat → Int32} {k v a b s o : Int32} {t m : Nat} (ht : ts t = 0) (hm : m < 32) (h : jt_Tok P (kn, cv, ca, cb, cs, co) ts tc se sd) : jt_Tok P (upd kn (32 * t + m) k, upd cv (32 * t + m) v, upd ca (32 * t + m) a, upd cb (32 * t + m) b, upd cs (32 * t + m) s, upd co (32 * t + m) o) ts tc se sd := by
  intro t' h24 hn
  have ne : t' ≠ t := fun e => hn (by rw [e]; exact ht)
  exact jt_T1_congr (jt_Ceq_upd (by omega)) (h t' h24 hn)
theorem jt_c1_at {C : jt_C} {c : Nat} {k v a b : Int32} {g : jt_G} (hk : C.1 c = k) (hv : C.2.1 c = v) (ha : C.2.2.1 c = a) (hb : C.2.2.2.1 c = b) : jt_c1 C c g = (if k = 8 then (if g.1 v.toNatClampNeg = a then (g, none) else (g, some c)) else (jt_ca k v a b g, none)) := by
  subst hk hv ha hb
  rfl
/-- the recording, one more step with a code -/
theorem jt_rec_some {ops xs ys zs kn cv ca cb cs co N : Nat → Int32} {sz p S0 s k v a b op x y z : Int32} {t m j i : Nat} (hP : jt_Pok (ops, xs, ys, zs, sz)) (hz : ¬ sz ≤ p) (hi : p.toNatClampNeg = i) (eo : ops i = op) (ex : xs i = x) (ey : ys i = y) (ez : zs i = z) (hio : jt_iok op x y z) (hf : ¬ jt_fl op y z s) (w : jt_wf s N)
    (hc : jt_cd op x y z p s (jt_eN op x y z s N) = some (k, v, a, b)) (h : jt_Snd (ops, xs, ys, zs, sz) (kn, cv, ca, cb, cs, co) t S0 m j p s) :
    jt_Snd (ops, xs, ys, zs, sz) (upd kn (32 * t + m) k, upd cv (32 * t + m) v, upd ca (32 * t + m) a, upd cb (32 * t + m) b, upd cs (32 * t + m) (nI (j + 1)), upd co (32 * t + m) (jt_eS op x y z s)) t S0 (m + 1) (j + 1) (jt_eL op x y p s N) (jt_eS op x y z s) := by
  subst hi
  have hf' : ¬ jt_fl (ops p.toNatClampNeg) (ys p.toNatClampNeg) (zs p.toNatClampNeg) s := by
    rw [eo, ey, ez]
    exact hf
  refine jt_Snd_1 hP (jt_Snd_congr (jt_Ceq_upd (Or.inr (Nat.le_refl _))) h) pk_us pk_us ?_
  intro g ct ok
  have sp := jt_sp_go (g := g) (ct := ct) (xs := xs) hz hf'
  rw [eo, ex, ey, ez] at sp
  have hc1 : jt_c1 (upd kn (32 * t + m) k, upd cv (32 * t + m) v, upd ca (32 * t + m) a, upd cb (32 * t + m) b, upd cs (32 * t + m) (nI (j + 1)), upd co (32 * t + m) (jt_eS op x y z s)) (32 * t + m) g = (if k = 8 then (if g.1 v.toNatClampNeg = a then (g, none) else (g, some (32 * t + m))) else (jt_ca k v a b g, none)) := jt_c1_at pk_us pk_us pk_us pk_us
  rw [sp, hc1]
  unfold jt_ex
  rcases jt_cd_some hio hf w ok.1 hc with ⟨n8, e1, e2⟩ | ⟨k8, e1, e2, e3⟩
  · rw [if_neg n8, e1]
    exact ⟨_, Or.inl ⟨rfl, by rw [e2]⟩⟩
  · rw [if_pos k8, e1]
    by_cases e : g.1 v.toNatClampNeg = a
    · rw [if_pos e]
      exact ⟨_, Or.inl ⟨rfl, by rw [e2 e]⟩⟩
    · rw [if_neg e]
      refine ⟨g, Or.inr ⟨rfl, ?_⟩⟩
      rw [e3 e]
      show Sum.inl (jt_eS op x y z s, g, b, ct + 1) = Sum.inl (jt_eS op x y z s, g, upd cb (32 * t + m) b (32 * t + m), ct + 1)
      rw [pk_us]
/-- the recording, one more step without a code -/
theorem jt_rec_none {ops xs ys zs N : Nat → Int32} {C : jt_C} {sz p S0 s op x y z : Int32} {t m j i : Nat} (hP : jt_Pok (ops, xs, ys, zs, sz)) (hz : ¬ sz ≤ p) (hi : p.toNatClampNeg = i) (eo : ops i = op) (ex : xs i = x) (ey : ys i = y) (ez : zs i = z) (hio : jt_iok op x y z) (hf : ¬ jt_fl op y z s) (w : jt_wf s N)
    (hc : jt_cd op x y z p s (jt_eN op x y z s N) = none) (h : jt_Snd (ops, xs, ys, zs, sz) C t S0 m j p s) :
    jt_Snd (ops, xs, ys, zs, sz) C t S0 m (j + 1) (jt_eL op x y p s N) (jt_eS op x y z s) := by
  subst hi
  have hf' : ¬ jt_fl (ops p.toNatClampNeg) (ys p.toNatClampNeg) (zs p.toNatClampNeg) s := by
    rw [eo, ey, ez]
    exact hf
  refine jt_Snd_0 hP h ?_
  intro g ct ok
  obtain ⟨e1, e2⟩ := jt_cd_none (g := g) hio w ok.1 hc
  rw [jt_sp_go hz hf', eo, ex, ey, ez]
  unfold jt_ex
  rw [e1, e2]
/-- the reference's sorts are the packed ones -/
def jt_Q (Q : Nat → Int32) (S : Int32) : Prop := ∀ v, v < 6 → Q v = jt_so S (nI v)
theorem jt_Q_at {Q : Nat → Int32} {S x : Int32} (h : jt_Q Q S) (hx : jt_vr x) : Q x.toNatClampNeg = jt_so S x := by
  obtain ⟨a, ha, rfl⟩ := hx
  rw [nI_clamp (by omega)]
  exact h a ha
theorem jt_Q_up {Q : Nat → Int32} {S x s : Int32} (h : jt_Q Q S) (hx : jt_vr x) (hs : jt_sr s) : jt_Q (upd Q x.toNatClampNeg s) (jt_as S x s) := by
  obtain ⟨a, ha, rfl⟩ := hx
  rw [nI_clamp (by omega)]
  intro v hv
  by_cases e : v = a
  · subst e
    rw [pk_us, jt_so_same hv hs]
  · rw [pk_un e, jt_so_other ha hv e hs]
    exact h v hv
theorem jt_orY {a b : Int32} (ha : a = 0 ∨ a = 1) (hb : b = 0 ∨ b = 1) : (a ||| b = 1 ∧ 0 < a + b) ∨ (a ||| b = 0 ∧ ¬ 0 < a + b) := by
  rcases ha with rfl | rfl <;> rcases hb with rfl | rfl <;> decide
theorem jt_Tok_mono {P P' : jt_P} {C : jt_C} {ts tc se sd : Nat → Int32} (hP : jt_Pok P) (hx : ∀ M M', jt_ok M → jt_sp P M = .inl M' → jt_sp P' M = .inl M') (h : jt_Tok P C ts tc se sd) : jt_Tok P' C ts tc se sd := by
  intro t h24 hn
  obtain ⟨j, m, e1, e2, h1, h2, h3, h4, h5⟩ := h t h24 hn
  exact ⟨j, m, e1, e2, h1, h2, h3, h4, jt_Snd_mono hP hx h5⟩
/-- a trace that becomes empty -/
theorem jt_Tok_drop {P : jt_P} {C : jt_C} {ts tc se sd : Nat → Int32} {t : Nat} {s0 : Int32} (h : jt_Tok P C ts tc se sd) : jt_Tok P C (upd ts t 0) tc (upd se t s0) sd := by
  intro t' h24 hn
  have ne : t' ≠ t := fun e => hn (by rw [e]; exact pk_us)
  rw [pk_un ne] at hn ⊢
  rw [pk_un ne]
  exact h t' h24 hn
/-- a trace that is recorded in full -/
theorem jt_Tok_new {P : jt_P} {C : jt_C} {ts tc se sd : Nat → Int32} {t j m : Nat} {s : Int32} (h : jt_Tok P C ts tc se sd) (h1 : 1 ≤ j) (h2 : j ≤ 32) (h3 : m ≤ j) (h4 : jt_Ck C (32 * t) m) (h5 : jt_Snd P C t (se t) m j (nI t) s) : jt_Tok P C (upd ts t (nI j)) (upd tc t (nI m)) se (upd sd t s) := by
  intro t' h24 hn
  by_cases e : t' = t
  · subst e
    rw [pk_us, pk_us, pk_us]
    exact ⟨j, m, rfl, rfl, h1, h2, h3, h4, h5⟩
  · rw [pk_un e] at hn ⊢
    rw [pk_un e, pk_un e]
    exact h t' h24 hn
/-- printed grows by at most one a step -/
theorem jt_eP_le {op : Int32} {q : Nat} (h : q + 1 < 2 ^ 31) : ∃ q', q' ≤ q + 1 ∧ jt_eP op (nI q) = nI q' := by
  unfold jt_eP
  by_cases c : op = 10
  · rw [if_pos c, jt_pI_lt h]
    exact ⟨q + 1, Nat.le_refl _, rfl⟩
  · rw [if_neg c]
    exact ⟨q, by omega, rfl⟩
