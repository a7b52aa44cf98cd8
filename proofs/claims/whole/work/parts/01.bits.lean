theorem pk_us {f : Nat → Int32} {k : Nat} {x : Int32} : upd f k x k = x := if_pos rfl
theorem pk_un {f : Nat → Int32} {k j : Nat} {x : Int32} (h : j ≠ k) : upd f k x j = f j := if_neg h
theorem pk_uLs {f : Nat → Int64} {k : Nat} {x : Int64} : vp_updL f k x k = x := if_pos rfl
theorem pk_uLn {f : Nat → Int64} {k j : Nat} {x : Int64} (h : j ≠ k) : vp_updL f k x j = f j := if_neg h
theorem pk_sub {a b : Nat} (h : b ≤ a) : nI a - nI b = nI (a - b) := by
  obtain ⟨c, rfl⟩ : ∃ c, a = c + b := ⟨a - b, by omega⟩
  rw [← nI_add, Int32.add_sub_cancel, Nat.add_sub_cancel]
theorem pk_mul (a b : Nat) : nI a * nI b = nI (a * b) := (Int32.ofNat_mul a b).symm
theorem pk_ix (x : Int32) {n : Nat} (hn : n < 2 ^ 31) : x < 0 ∨ nI n ≤ x ∨ ∃ j : Nat, j < n ∧ x = nI j := by
  by_cases h : x < 0
  · exact Or.inl h
  · obtain ⟨j, hj, rfl⟩ := nI_of h
    by_cases h2 : j < n
    · exact Or.inr (Or.inr ⟨j, h2, rfl⟩)
    · exact Or.inr (Or.inl (nI_le (by omega) hj))
theorem pk_le {x y : Int32} {A B : Prop} (a b : Nat) (f : a ≤ b → A) (g : b < a → B) (hx : x = nI a := by rfl) (hy : y = nI b := by rfl) (ha : a < 2 ^ 31 := by omega) (hb : b < 2 ^ 31 := by omega) : (x ≤ y → A) ∧ (¬ x ≤ y → B) := by
  subst hx hy
  rw [nI_leI ha hb]
  exact ⟨f, fun z => g (by omega)⟩
theorem pk_lt {x y : Int32} {A B : Prop} (a b : Nat) (f : a < b → A) (g : b ≤ a → B) (hx : x = nI a := by rfl) (hy : y = nI b := by rfl) (ha : a < 2 ^ 31 := by omega) (hb : b < 2 ^ 31 := by omega) : (x < y → A) ∧ (¬ x < y → B) := by
  subst hx hy
  rw [nI_ltI ha hb]
  exact ⟨f, fun z => g (by omega)⟩
theorem pk_eq {x y : Int32} {A B : Prop} (a b : Nat) (f : a = b → A) (g : a ≠ b → B) (hx : x = nI a := by rfl) (hy : y = nI b := by rfl) (ha : a < 2 ^ 31 := by omega) (hb : b < 2 ^ 31 := by omega) : (x = y → A) ∧ (¬ x = y → B) := by
  subst hx hy
  rw [nI_eq ha hb]
  exact ⟨f, g⟩
theorem pk_in {x : Int32} (n N : Nat) (h : n < N) (hx : x = nI n := by rfl) (hN : N < 2 ^ 31 := by omega) : vp_in x N := by
  subst hx
  exact vp_in_nI h hN
theorem pk_cl {x : Int32} (n : Nat) (hx : x = nI n := by rfl) (h : n < 2 ^ 31 := by omega) : x.toNatClampNeg = n := by
  subst hx
  exact nI_clamp h
theorem pk_tn {n : Nat} (h : n < 2 ^ 32) : (nI n).toBitVec.toNat = n := Nat.mod_eq_of_lt h
theorem pk_and (x : Int32) {m : Int32} (k : Nat) (hm : m.toBitVec.toNat = 2 ^ k - 1) : x &&& m = nI (x.toBitVec.toNat % 2 ^ k) := by
  apply Int32.toBitVec_inj.mp
  apply BitVec.eq_of_toNat_eq
  rw [Int32.toBitVec_and, BitVec.toNat_and, hm, Nat.and_two_pow_sub_one_eq_mod]
  show _ = (BitVec.ofNat 32 _).toNat
  rw [BitVec.toNat_ofNat]
  exact (Nat.mod_eq_of_lt (Nat.lt_of_le_of_lt (Nat.mod_le _ _) x.toBitVec.isLt)).symm
theorem pk_andE (x : Int32) {m : Int32} (k : Nat) (hm : m.toBitVec.toNat = 2 ^ k - 1) : ∃ j : Nat, j < 2 ^ k ∧ x &&& m = nI j := ⟨_, Nat.mod_lt _ (Nat.two_pow_pos k), pk_and x k hm⟩
def bt (x : Int32) (i : Nat) : Bool := x.toBitVec.getLsbD i
theorem b_ext {x y : Int32} (h : ∀ i, i < 32 → bt x i = bt y i) : x = y := Int32.toBitVec_inj.mp (BitVec.eq_of_getLsbD_eq (fun i hi => h i hi))
theorem b_or (x y : Int32) (i : Nat) : bt (x ||| y) i = (bt x i || bt y i) := by unfold bt; rw [Int32.toBitVec_or, BitVec.getLsbD_or]
theorem b_and (x y : Int32) (i : Nat) : bt (x &&& y) i = (bt x i && bt y i) := by unfold bt; rw [Int32.toBitVec_and, BitVec.getLsbD_and]
theorem b_xor (x y : Int32) (i : Nat) : bt (x ^^^ y) i = (bt x i ^^ bt y i) := by unfold bt; rw [Int32.toBitVec_xor, BitVec.getLsbD_xor]
theorem b_big {x : Int32} {i : Nat} (h : 32 ≤ i) : bt x i = false := BitVec.getLsbD_of_ge _ _ h
theorem b_m1 : ∀ i, i < 32 → bt (-1) i = true := by decide +kernel
theorem b_0 (i : Nat) : bt 0 i = false := BitVec.getLsbD_zero
theorem s_l : ∀ n, n < 32 → ((nI n &&& 31).toBitVec.smod 32).toNat = n := by decide +kernel
theorem b_shl (n : Nat) (hn : n < 32) (x : Int32) {i : Nat} (hi : i < 32) : bt (x <<< (nI n &&& 31)) i = (decide (n ≤ i) && bt x (i - n)) := by
  unfold bt
  rw [Int32.toBitVec_shiftLeft]
  show (x.toBitVec <<< ((nI n &&& 31).toBitVec.smod 32).toNat).getLsbD i = _
  rw [s_l n hn, BitVec.getLsbD_shiftLeft]
  rcases Nat.lt_or_ge i n with h | h
  · simp [h, Nat.not_le.mpr h]
  · simp [hi, h, Nat.not_lt.mpr h]
theorem b_sshr (n : Nat) (hn : n < 32) (x : Int32) {i : Nat} (hi : i < 32) : bt (x >>> (nI n &&& 31)) i = if n + i < 32 then bt x (n + i) else bt x 31 := by
  unfold bt
  rw [Int32.toBitVec_shiftRight]
  show (x.toBitVec.sshiftRight ((nI n &&& 31).toBitVec.smod 32).toNat).getLsbD i = _
  rw [s_l n hn, BitVec.getLsbD_sshiftRight, BitVec.msb_eq_getLsbD_last]
  simp [hi]
/-- the sort of variable v in the packed sorts p -/
def jt_so (p v : Int32) : Int32 := (p >>> (((2 : Int32) * v) &&& 31)) &&& 3
/-- the packed sorts p with sort s for variable v -/
def jt_as (p v s : Int32) : Int32 := (p &&& (((3 : Int32) <<< (((2 : Int32) * v) &&& 31)) ^^^ (-1))) ||| (s <<< (((2 : Int32) * v) &&& 31))
theorem jt_b3 (i : Nat) : bt 3 i = decide (i < 2) := by
  rcases Nat.lt_or_ge i 32 with h | h
  · exact (by decide +kernel : ∀ i, i < 32 → bt 3 i = decide (i < 2)) i h
  · rw [b_big h, decide_eq_false (by omega)]
theorem jt_2v (v : Nat) : (2 : Int32) * nI v = nI (2 * v) := pk_mul 2 v
theorem jt_soBit {p : Int32} {v i : Nat} (hv : v < 6) (hi : i < 32) : bt (jt_so p (nI v)) i = (decide (i < 2) && bt p (2 * v + i)) := by
  unfold jt_so
  rw [jt_2v, b_and, jt_b3, b_sshr (2 * v) (by omega) p hi]
  by_cases h : i < 2
  · rw [if_pos (by omega), decide_eq_true h, Bool.and_true, Bool.true_and]
  · rw [decide_eq_false h, Bool.and_false, Bool.false_and]
theorem jt_asBit {p s : Int32} {v i : Nat} (hv : v < 6) (hi : i < 32) : bt (jt_as p (nI v) s) i = ((bt p i && !(decide (2 * v ≤ i) && decide (i - 2 * v < 2))) || (decide (2 * v ≤ i) && bt s (i - 2 * v))) := by
  unfold jt_as
  rw [jt_2v, b_or, b_and, b_xor, b_shl (2 * v) (by omega) 3 hi, b_shl (2 * v) (by omega) s hi, b_m1 i hi, jt_b3, Bool.xor_true]
/-- a sort: two bits -/
def jt_sr (s : Int32) : Prop := ∀ k, 2 ≤ k → bt s k = false
theorem jt_sr0 : jt_sr 0 := fun k _ => b_0 k
theorem jt_sr1 : jt_sr 1 := by
  intro k hk
  rcases Nat.lt_or_ge k 32 with h | h
  · exact (by decide +kernel : ∀ i, i < 32 → 2 ≤ i → bt 1 i = false) k h hk
  · exact b_big h
theorem jt_sr2 : jt_sr 2 := by
  intro k hk
  rcases Nat.lt_or_ge k 32 with h | h
  · exact (by decide +kernel : ∀ i, i < 32 → 2 ≤ i → bt 2 i = false) k h hk
  · exact b_big h
theorem jt_so_same {p s : Int32} {v : Nat} (hv : v < 6) (hs : jt_sr s) : jt_so (jt_as p (nI v) s) (nI v) = s := by
  apply b_ext
  intro i hi
  rw [jt_soBit hv hi]
  by_cases h : i < 2
  · rw [jt_asBit hv (by omega), show 2 * v + i - 2 * v = i from by omega, decide_eq_true h, decide_eq_true (show 2 * v ≤ 2 * v + i from by omega)]
    simp
  · rw [decide_eq_false h, hs i (by omega)]
    rfl
theorem jt_so_other {p s : Int32} {v w : Nat} (hv : v < 6) (hw : w < 6) (h : w ≠ v) (hs : jt_sr s) : jt_so (jt_as p (nI v) s) (nI w) = jt_so p (nI w) := by
  apply b_ext
  intro i hi
  rw [jt_soBit hw hi, jt_soBit hw hi]
  by_cases h2 : i < 2
  · rw [jt_asBit hv (by omega)]
    rcases Nat.lt_or_ge w v with g | g
    · have e : ¬ 2 * v ≤ 2 * w + i := by omega
      rw [decide_eq_false e]
      simp
    · have e : ¬ (2 * w + i - 2 * v < 2) := by omega
      rw [decide_eq_false e, hs (2 * w + i - 2 * v) (by omega)]
      simp
  · rw [decide_eq_false h2]
    rfl
/-- sort s and number n fit each other -/
def jt_vs (s n : Int32) : Prop := s = 1 ∨ (s = 0 ∧ n = 0) ∨ (s = 2 ∧ (n = 0 ∨ n = 1))
theorem jt_vs_sr {s n : Int32} (h : jt_vs s n) : jt_sr s := by
  rcases h with h | ⟨h, _⟩ | ⟨h, _⟩
  · rw [h]; exact jt_sr1
  · rw [h]; exact jt_sr0
  · rw [h]; exact jt_sr2
def jt_wf (S : Int32) (N : Nat → Int32) : Prop := ∀ v, v < 6 → jt_vs (jt_so S (nI v)) (N v)
theorem jt_wf_as {S s n : Int32} {N : Nat → Int32} {v : Nat} (h : jt_wf S N) (hv : v < 6) (hs : jt_vs s n) : jt_wf (jt_as S (nI v) s) (upd N v n) := by
  intro w hw
  by_cases e : w = v
  · subst e
    rw [jt_so_same hv (jt_vs_sr hs), pk_us]
    exact hs
  · rw [jt_so_other hv hw e (jt_vs_sr hs), pk_un e]
    exact h w hw
theorem jt_wf_0 : jt_wf 0 (fun _ => 0) := by
  intro v hv
  have h : jt_so 0 (nI v) = 0 := (by decide +kernel : ∀ v, v < 6 → jt_so 0 (nI v) = 0) v hv
  exact Or.inr (Or.inl ⟨h, rfl⟩)
/-- a variable, a target -/
def jt_vr (x : Int32) : Prop := ∃ a, a < 6 ∧ x = nI a
def jt_tg (x : Int32) : Prop := ∃ a, a < 24 ∧ x = nI a
theorem jt_wf_at {S x : Int32} {N : Nat → Int32} (h : jt_wf S N) (hx : jt_vr x) : jt_vs (jt_so S x) (N x.toNatClampNeg) := by
  obtain ⟨a, ha, rfl⟩ := hx
  rw [nI_clamp (by omega)]
  exact h a ha
theorem jt_wf_up {S x s n : Int32} {N : Nat → Int32} (h : jt_wf S N) (hx : jt_vr x) (hs : jt_vs s n) : jt_wf (jt_as S x s) (upd N x.toNatClampNeg n) := by
  obtain ⟨a, ha, rfl⟩ := hx
  rw [nI_clamp (by omega)]
  exact jt_wf_as h ha hs
theorem jt_vr_in {x : Int32} (h : jt_vr x) : vp_in x 6 := by
  obtain ⟨a, ha, rfl⟩ := h
  exact vp_in_nI ha (by omega)

