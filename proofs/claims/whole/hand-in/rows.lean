section
theorem pk_us {f : Nat → Int32} {k : Nat} {x : Int32} : upd f k x k = x := if_pos rfl
theorem pk_un {f : Nat → Int32} {k j : Nat} {x : Int32} (h : j ≠ k) : upd f k x j = f j := if_neg h
theorem pk_uLs {f : Nat → Int64} {k : Nat} {x : Int64} : vp_updL f k x k = x := if_pos rfl
theorem pk_uLn {f : Nat → Int64} {k j : Nat} {x : Int64} (h : j ≠ k) : vp_updL f k x j = f j := if_neg h
theorem pk_sub {a b : Nat} (h : b ≤ a) : nI a - nI b = nI (a - b) := by
  obtain ⟨c, rfl⟩ : ∃ c, a = c + b := ⟨a - b, by omega⟩
  rw [← nI_add, Int32.add_sub_cancel, Nat.add_sub_cancel]
theorem pk_mul (a b : Nat) : nI a * nI b = nI (a * b) := (Int32.ofNat_mul a b).symm
theorem pk_ix (x : Int32) {n : Nat} (hn : n < 2 ^ 31) : x < 0 ∨ nI n ≤ x ∨ ∃ j : Nat, j < n ∧ x = nI j := by
  by_cases h : x < 0
  · exact Or.inl h
  · obtain ⟨j, hj, rfl⟩ := nI_of h
    by_cases h2 : j < n
    · exact Or.inr (Or.inr ⟨j, h2, rfl⟩)
    · exact Or.inr (Or.inl (nI_le (by omega) hj))
theorem pk_le {x y : Int32} {A B : Prop} (a b : Nat) (f : a ≤ b → A) (g : b < a → B) (hx : x = nI a := by rfl) (hy : y = nI b := by rfl) (ha : a < 2 ^ 31 := by omega) (hb : b < 2 ^ 31 := by omega) : (x ≤ y → A) ∧ (¬ x ≤ y → B) := by
  subst hx hy
  rw [nI_leI ha hb]
  exact ⟨f, fun z => g (by omega)⟩
theorem pk_lt {x y : Int32} {A B : Prop} (a b : Nat) (f : a < b → A) (g : b ≤ a → B) (hx : x = nI a := by rfl) (hy : y = nI b := by rfl) (ha : a < 2 ^ 31 := by omega) (hb : b < 2 ^ 31 := by omega) : (x < y → A) ∧ (¬ x < y → B) := by
  subst hx hy
  rw [nI_ltI ha hb]
  exact ⟨f, fun z => g (by omega)⟩
theorem pk_eq {x y : Int32} {A B : Prop} (a b : Nat) (f : a = b → A) (g : a ≠ b → B) (hx : x = nI a := by rfl) (hy : y = nI b := by rfl) (ha : a < 2 ^ 31 := by omega) (hb : b < 2 ^ 31 := by omega) : (x = y → A) ∧ (¬ x = y → B) := by
  subst hx hy
  rw [nI_eq ha hb]
  exact ⟨f, g⟩
theorem pk_in {x : Int32} (n N : Nat) (h : n < N) (hx : x = nI n := by rfl) (hN : N < 2 ^ 31 := by omega) : vp_in x N := by
  subst hx
  exact vp_in_nI h hN
theorem pk_cl {x : Int32} (n : Nat) (hx : x = nI n := by rfl) (h : n < 2 ^ 31 := by omega) : x.toNatClampNeg = n := by
  subst hx
  exact nI_clamp h
theorem pk_tn {n : Nat} (h : n < 2 ^ 32) : (nI n).toBitVec.toNat = n := Nat.mod_eq_of_lt h
theorem pk_and (x : Int32) {m : Int32} (k : Nat) (hm : m.toBitVec.toNat = 2 ^ k - 1) : x &&& m = nI (x.toBitVec.toNat % 2 ^ k) := by
  apply Int32.toBitVec_inj.mp
  apply BitVec.eq_of_toNat_eq
  rw [Int32.toBitVec_and, BitVec.toNat_and, hm, Nat.and_two_pow_sub_one_eq_mod]
  show _ = (BitVec.ofNat 32 _).toNat
  rw [BitVec.toNat_ofNat]
  exact (Nat.mod_eq_of_lt (Nat.lt_of_le_of_lt (Nat.mod_le _ _) x.toBitVec.isLt)).symm
theorem pk_andE (x : Int32) {m : Int32} (k : Nat) (hm : m.toBitVec.toNat = 2 ^ k - 1) : ∃ j : Nat, j < 2 ^ k ∧ x &&& m = nI j := ⟨_, Nat.mod_lt _ (Nat.two_pow_pos k), pk_and x k hm⟩
def bt (x : Int32) (i : Nat) : Bool := x.toBitVec.getLsbD i
theorem b_ext {x y : Int32} (h : ∀ i, i < 32 → bt x i = bt y i) : x = y := Int32.toBitVec_inj.mp (BitVec.eq_of_getLsbD_eq (fun i hi => h i hi))
theorem b_or (x y : Int32) (i : Nat) : bt (x ||| y) i = (bt x i || bt y i) := by unfold bt; rw [Int32.toBitVec_or, BitVec.getLsbD_or]
theorem b_and (x y : Int32) (i : Nat) : bt (x &&& y) i = (bt x i && bt y i) := by unfold bt; rw [Int32.toBitVec_and, BitVec.getLsbD_and]
theorem b_xor (x y : Int32) (i : Nat) : bt (x ^^^ y) i = (bt x i ^^ bt y i) := by unfold bt; rw [Int32.toBitVec_xor, BitVec.getLsbD_xor]
theorem b_big {x : Int32} {i : Nat} (h : 32 ≤ i) : bt x i = false := BitVec.getLsbD_of_ge _ _ h
theorem b_m1 : ∀ i, i < 32 → bt (-1) i = true := by decide +kernel
theorem b_0 (i : Nat) : bt 0 i = false := BitVec.getLsbD_zero
theorem s_l : ∀ n, n < 32 → ((nI n &&& 31).toBitVec.smod 32).toNat = n := by decide +kernel
theorem b_shl (n : Nat) (hn : n < 32) (x : Int32) {i : Nat} (hi : i < 32) : bt (x <<< (nI n &&& 31)) i = (decide (n ≤ i) && bt x (i - n)) := by
  unfold bt
  rw [Int32.toBitVec_shiftLeft]
  show (x.toBitVec <<< ((nI n &&& 31).toBitVec.smod 32).toNat).getLsbD i = _
  rw [s_l n hn, BitVec.getLsbD_shiftLeft]
  rcases Nat.lt_or_ge i n with h | h
  · simp [h, Nat.not_le.mpr h]
  · simp [hi, h, Nat.not_lt.mpr h]
theorem b_sshr (n : Nat) (hn : n < 32) (x : Int32) {i : Nat} (hi : i < 32) : bt (x >>> (nI n &&& 31)) i = if n + i < 32 then bt x (n + i) else bt x 31 := by
  unfold bt
  rw [Int32.toBitVec_shiftRight]
  show (x.toBitVec.sshiftRight ((nI n &&& 31).toBitVec.smod 32).toNat).getLsbD i = _
  rw [s_l n hn, BitVec.getLsbD_sshiftRight, BitVec.msb_eq_getLsbD_last]
  simp [hi]
/-- the sort of variable v in the packed sorts p -/
def jt_so (p v : Int32) : Int32 := (p >>> (((2 : Int32) * v) &&& 31)) &&& 3
/-- the packed sorts p with sort s for variable v -/
def jt_as (p v s : Int32) : Int32 := (p &&& (((3 : Int32) <<< (((2 : Int32) * v) &&& 31)) ^^^ (-1))) ||| (s <<< (((2 : Int32) * v) &&& 31))
theorem jt_b3 (i : Nat) : bt 3 i = decide (i < 2) := by
  rcases Nat.lt_or_ge i 32 with h | h
  · exact (by decide +kernel : ∀ i, i < 32 → bt 3 i = decide (i < 2)) i h
  · rw [b_big h, decide_eq_false (by omega)]
theorem jt_2v (v : Nat) : (2 : Int32) * nI v = nI (2 * v) := pk_mul 2 v
theorem jt_soBit {p : Int32} {v i : Nat} (hv : v < 6) (hi : i < 32) : bt (jt_so p (nI v)) i = (decide (i < 2) && bt p (2 * v + i)) := by
  unfold jt_so
  rw [jt_2v, b_and, jt_b3, b_sshr (2 * v) (by omega) p hi]
  by_cases h : i < 2
  · rw [if_pos (by omega), decide_eq_true h, Bool.and_true, Bool.true_and]
  · rw [decide_eq_false h, Bool.and_false, Bool.false_and]
theorem jt_asBit {p s : Int32} {v i : Nat} (hv : v < 6) (hi : i < 32) : bt (jt_as p (nI v) s) i = ((bt p i && !(decide (2 * v ≤ i) && decide (i - 2 * v < 2))) || (decide (2 * v ≤ i) && bt s (i - 2 * v))) := by
  unfold jt_as
  rw [jt_2v, b_or, b_and, b_xor, b_shl (2 * v) (by omega) 3 hi, b_shl (2 * v) (by omega) s hi, b_m1 i hi, jt_b3, Bool.xor_true]
/-- a sort: two bits -/
def jt_sr (s : Int32) : Prop := ∀ k, 2 ≤ k → bt s k = false
theorem jt_sr0 : jt_sr 0 := fun k _ => b_0 k
theorem jt_sr1 : jt_sr 1 := by
  intro k hk
  rcases Nat.lt_or_ge k 32 with h | h
  · exact (by decide +kernel : ∀ i, i < 32 → 2 ≤ i → bt 1 i = false) k h hk
  · exact b_big h
theorem jt_sr2 : jt_sr 2 := by
  intro k hk
  rcases Nat.lt_or_ge k 32 with h | h
  · exact (by decide +kernel : ∀ i, i < 32 → 2 ≤ i → bt 2 i = false) k h hk
  · exact b_big h
theorem jt_so_same {p s : Int32} {v : Nat} (hv : v < 6) (hs : jt_sr s) : jt_so (jt_as p (nI v) s) (nI v) = s := by
  apply b_ext
  intro i hi
  rw [jt_soBit hv hi]
  by_cases h : i < 2
  · rw [jt_asBit hv (by omega), show 2 * v + i - 2 * v = i from by omega, decide_eq_true h, decide_eq_true (show 2 * v ≤ 2 * v + i from by omega)]
    simp
  · rw [decide_eq_false h, hs i (by omega)]
    rfl
theorem jt_so_other {p s : Int32} {v w : Nat} (hv : v < 6) (hw : w < 6) (h : w ≠ v) (hs : jt_sr s) : jt_so (jt_as p (nI v) s) (nI w) = jt_so p (nI w) := by
  apply b_ext
  intro i hi
  rw [jt_soBit hw hi, jt_soBit hw hi]
  by_cases h2 : i < 2
  · rw [jt_asBit hv (by omega)]
    rcases Nat.lt_or_ge w v with g | g
    · have e : ¬ 2 * v ≤ 2 * w + i := by omega
      rw [decide_eq_false e]
      simp
    · have e : ¬ (2 * w + i - 2 * v < 2) := by omega
      rw [decide_eq_false e, hs (2 * w + i - 2 * v) (by omega)]
      simp
  · rw [decide_eq_false h2]
    rfl
/-- sort s and number n fit each other -/
def jt_vs (s n : Int32) : Prop := s = 1 ∨ (s = 0 ∧ n = 0) ∨ (s = 2 ∧ (n = 0 ∨ n = 1))
theorem jt_vs_sr {s n : Int32} (h : jt_vs s n) : jt_sr s := by
  rcases h with h | ⟨h, _⟩ | ⟨h, _⟩
  · rw [h]; exact jt_sr1
  · rw [h]; exact jt_sr0
  · rw [h]; exact jt_sr2
def jt_wf (S : Int32) (N : Nat → Int32) : Prop := ∀ v, v < 6 → jt_vs (jt_so S (nI v)) (N v)
theorem jt_wf_as {S s n : Int32} {N : Nat → Int32} {v : Nat} (h : jt_wf S N) (hv : v < 6) (hs : jt_vs s n) : jt_wf (jt_as S (nI v) s) (upd N v n) := by
  intro w hw
  by_cases e : w = v
  · subst e
    rw [jt_so_same hv (jt_vs_sr hs), pk_us]
    exact hs
  · rw [jt_so_other hv hw e (jt_vs_sr hs), pk_un e]
    exact h w hw
theorem jt_wf_0 : jt_wf 0 (fun _ => 0) := by
  intro v hv
  have h : jt_so 0 (nI v) = 0 := (by decide +kernel : ∀ v, v < 6 → jt_so 0 (nI v) = 0) v hv
  exact Or.inr (Or.inl ⟨h, rfl⟩)
/-- a variable, a target -/
def jt_vr (x : Int32) : Prop := ∃ a, a < 6 ∧ x = nI a
def jt_tg (x : Int32) : Prop := ∃ a, a < 24 ∧ x = nI a
theorem jt_wf_at {S x : Int32} {N : Nat → Int32} (h : jt_wf S N) (hx : jt_vr x) : jt_vs (jt_so S x) (N x.toNatClampNeg) := by
  obtain ⟨a, ha, rfl⟩ := hx
  rw [nI_clamp (by omega)]
  exact h a ha
theorem jt_wf_up {S x s n : Int32} {N : Nat → Int32} (h : jt_wf S N) (hx : jt_vr x) (hs : jt_vs s n) : jt_wf (jt_as S x s) (upd N x.toNatClampNeg n) := by
  obtain ⟨a, ha, rfl⟩ := hx
  rw [nI_clamp (by omega)]
  exact jt_wf_as h ha hs
theorem jt_vr_in {x : Int32} (h : jt_vr x) : vp_in x 6 := by
  obtain ⟨a, ha, rfl⟩ := h
  exact vp_in_nI ha (by omega)
end
section
abbrev jt_G : Type := (Nat → Int32) × (Nat → Int64) × Int32
abbrev jt_M : Type := Int32 × jt_G × Int32 × Int32
abbrev jt_P : Type := (Nat → Int32) × (Nat → Int32) × (Nat → Int32) × (Nat → Int32) × Int32
abbrev jt_C : Type := (Nat → Int32) × (Nat → Int32) × (Nat → Int32) × (Nat → Int32) × (Nat → Int32) × (Nat → Int32)
def jt_pK (K : Nat → Int64) (pr n s : Int32) : Nat → Int64 := if pr < 24 then vp_updL K pr.toNatClampNeg ((4 : Int64) * n.toInt64 + s.toInt64) else K
def jt_pI (pr : Int32) : Int32 := if pr < 2147483647 then pr + 1 else pr
def jt_eS (op x y z S : Int32) : Int32 := if op = 0 then (jt_as S x 1) else if op = 1 then (jt_as S x 2) else if op = 2 then (jt_as S x 0) else if op = 3 then (jt_as S x (jt_so S y)) else if op = 4 then (jt_as S x (if jt_so S y = 1 then 1 else 2)) else if op = 5 then (jt_as S x 1) else if op = 6 then (jt_as S x 2) else if op = 7 then (jt_as S x 2) else S
theorem jt_eS_0 (x y z S : Int32) : jt_eS 0 x y z S = (jt_as S x 1) := by
  unfold jt_eS
  rw [if_pos rfl]
theorem jt_eS_1 (x y z S : Int32) : jt_eS 1 x y z S = (jt_as S x 2) := by
  unfold jt_eS
  rw [if_neg (by decide), if_pos rfl]
theorem jt_eS_2 (x y z S : Int32) : jt_eS 2 x y z S = (jt_as S x 0) := by
  unfold jt_eS
  rw [if_neg (by decide), if_neg (by decide), if_pos rfl]
theorem jt_eS_3 (x y z S : Int32) : jt_eS 3 x y z S = (jt_as S x (jt_so S y)) := by
  unfold jt_eS
  rw [if_neg (by decide), if_neg (by decide), if_neg (by decide), if_pos rfl]
theorem jt_eS_4 (x y z S : Int32) : jt_eS 4 x y z S = (jt_as S x (if jt_so S y = 1 then 1 else 2)) := by
  unfold jt_eS
  rw [if_neg (by decide), if_neg (by decide), if_neg (by decide), if_neg (by decide), if_pos rfl]
theorem jt_eS_5 (x y z S : Int32) : jt_eS 5 x y z S = (jt_as S x 1) := by
  unfold jt_eS
  rw [if_neg (by decide), if_neg (by decide), if_neg (by decide), if_neg (by decide), if_neg (by decide), if_pos rfl]
theorem jt_eS_6 (x y z S : Int32) : jt_eS 6 x y z S = (jt_as S x 2) := by
  unfold jt_eS
  rw [if_neg (by decide), if_neg (by decide), if_neg (by decide), if_neg (by decide), if_neg (by decide), if_neg (by decide), if_pos rfl]
theorem jt_eS_7 (x y z S : Int32) : jt_eS 7 x y z S = (jt_as S x 2) := by
  unfold jt_eS
  rw [if_neg (by decide), if_neg (by decide), if_neg (by decide), if_neg (by decide), if_neg (by decide), if_neg (by decide), if_neg (by decide), if_pos rfl]
theorem jt_eS_8 (x y z S : Int32) : jt_eS 8 x y z S = (S) := by
  unfold jt_eS
  rw [if_neg (by decide), if_neg (by decide), if_neg (by decide), if_neg (by decide), if_neg (by decide), if_neg (by decide), if_neg (by decide), if_neg (by decide)]
theorem jt_eS_9 (x y z S : Int32) : jt_eS 9 x y z S = (S) := by
  unfold jt_eS
  rw [if_neg (by decide), if_neg (by decide), if_neg (by decide), if_neg (by decide), if_neg (by decide), if_neg (by decide), if_neg (by decide), if_neg (by decide)]
theorem jt_eS_10 (x y z S : Int32) : jt_eS 10 x y z S = (S) := by
  unfold jt_eS
  rw [if_neg (by decide), if_neg (by decide), if_neg (by decide), if_neg (by decide), if_neg (by decide), if_neg (by decide), if_neg (by decide), if_neg (by decide)]
def jt_eN (op x y z S : Int32) (N : Nat → Int32) : Nat → Int32 := if op = 0 then (upd N x.toNatClampNeg y) else if op = 1 then (upd N x.toNatClampNeg (if y = 0 then 0 else 1)) else if op = 2 then (upd N x.toNatClampNeg 0) else if op = 3 then (upd N x.toNatClampNeg (N y.toNatClampNeg)) else if op = 4 then (upd N x.toNatClampNeg (if jt_so S y = 1 then N y.toNatClampNeg + N z.toNatClampNeg else N y.toNatClampNeg ||| N z.toNatClampNeg)) else if op = 5 then (upd N x.toNatClampNeg (N y.toNatClampNeg - N z.toNatClampNeg)) else if op = 6 then (upd N x.toNatClampNeg (if N y.toNatClampNeg < N z.toNatClampNeg then 1 else 0)) else if op = 7 then (upd N x.toNatClampNeg (if jt_so S y = jt_so S z ∧ N y.toNatClampNeg = N z.toNatClampNeg then 1 else 0)) else N
theorem jt_eN_0 (x y z S : Int32) (N : Nat → Int32) : jt_eN 0 x y z S N = (upd N x.toNatClampNeg y) := by
  unfold jt_eN
  rw [if_pos rfl]
theorem jt_eN_1 (x y z S : Int32) (N : Nat → Int32) : jt_eN 1 x y z S N = (upd N x.toNatClampNeg (if y = 0 then 0 else 1)) := by
  unfold jt_eN
  rw [if_neg (by decide), if_pos rfl]
theorem jt_eN_2 (x y z S : Int32) (N : Nat → Int32) : jt_eN 2 x y z S N = (upd N x.toNatClampNeg 0) := by
  unfold jt_eN
  rw [if_neg (by decide), if_neg (by decide), if_pos rfl]
theorem jt_eN_3 (x y z S : Int32) (N : Nat → Int32) : jt_eN 3 x y z S N = (upd N x.toNatClampNeg (N y.toNatClampNeg)) := by
  unfold jt_eN
  rw [if_neg (by decide), if_neg (by decide), if_neg (by decide), if_pos rfl]
theorem jt_eN_4 (x y z S : Int32) (N : Nat → Int32) : jt_eN 4 x y z S N = (upd N x.toNatClampNeg (if jt_so S y = 1 then N y.toNatClampNeg + N z.toNatClampNeg else N y.toNatClampNeg ||| N z.toNatClampNeg)) := by
  unfold jt_eN
  rw [if_neg (by decide), if_neg (by decide), if_neg (by decide), if_neg (by decide), if_pos rfl]
theorem jt_eN_5 (x y z S : Int32) (N : Nat → Int32) : jt_eN 5 x y z S N = (upd N x.toNatClampNeg (N y.toNatClampNeg - N z.toNatClampNeg)) := by
  unfold jt_eN
  rw [if_neg (by decide), if_neg (by decide), if_neg (by decide), if_neg (by decide), if_neg (by decide), if_pos rfl]
theorem jt_eN_6 (x y z S : Int32) (N : Nat → Int32) : jt_eN 6 x y z S N = (upd N x.toNatClampNeg (if N y.toNatClampNeg < N z.toNatClampNeg then 1 else 0)) := by
  unfold jt_eN
  rw [if_neg (by decide), if_neg (by decide), if_neg (by decide), if_neg (by decide), if_neg (by decide), if_neg (by decide), if_pos rfl]
theorem jt_eN_7 (x y z S : Int32) (N : Nat → Int32) : jt_eN 7 x y z S N = (upd N x.toNatClampNeg (if jt_so S y = jt_so S z ∧ N y.toNatClampNeg = N z.toNatClampNeg then 1 else 0)) := by
  unfold jt_eN
  rw [if_neg (by decide), if_neg (by decide), if_neg (by decide), if_neg (by decide), if_neg (by decide), if_neg (by decide), if_neg (by decide), if_pos rfl]
theorem jt_eN_8 (x y z S : Int32) (N : Nat → Int32) : jt_eN 8 x y z S N = (N) := by
  unfold jt_eN
  rw [if_neg (by decide), if_neg (by decide), if_neg (by decide), if_neg (by decide), if_neg (by decide), if_neg (by decide), if_neg (by decide), if_neg (by decide)]
theorem jt_eN_9 (x y z S : Int32) (N : Nat → Int32) : jt_eN 9 x y z S N = (N) := by
  unfold jt_eN
  rw [if_neg (by decide), if_neg (by decide), if_neg (by decide), if_neg (by decide), if_neg (by decide), if_neg (by decide), if_neg (by decide), if_neg (by decide)]
theorem jt_eN_10 (x y z S : Int32) (N : Nat → Int32) : jt_eN 10 x y z S N = (N) := by
  unfold jt_eN
  rw [if_neg (by decide), if_neg (by decide), if_neg (by decide), if_neg (by decide), if_neg (by decide), if_neg (by decide), if_neg (by decide), if_neg (by decide)]
def jt_eK (op x S pr : Int32) (N : Nat → Int32) (K : Nat → Int64) : Nat → Int64 := if op = 10 then (jt_pK K pr (N x.toNatClampNeg) (jt_so S x)) else K
theorem jt_eK_0 (x S pr : Int32) (N : Nat → Int32) (K : Nat → Int64) : jt_eK 0 x S pr N K = (K) := by
  unfold jt_eK
  rw [if_neg (by decide)]
theorem jt_eK_1 (x S pr : Int32) (N : Nat → Int32) (K : Nat → Int64) : jt_eK 1 x S pr N K = (K) := by
  unfold jt_eK
  rw [if_neg (by decide)]
theorem jt_eK_2 (x S pr : Int32) (N : Nat → Int32) (K : Nat → Int64) : jt_eK 2 x S pr N K = (K) := by
  unfold jt_eK
  rw [if_neg (by decide)]
theorem jt_eK_3 (x S pr : Int32) (N : Nat → Int32) (K : Nat → Int64) : jt_eK 3 x S pr N K = (K) := by
  unfold jt_eK
  rw [if_neg (by decide)]
theorem jt_eK_4 (x S pr : Int32) (N : Nat → Int32) (K : Nat → Int64) : jt_eK 4 x S pr N K = (K) := by
  unfold jt_eK
  rw [if_neg (by decide)]
theorem jt_eK_5 (x S pr : Int32) (N : Nat → Int32) (K : Nat → Int64) : jt_eK 5 x S pr N K = (K) := by
  unfold jt_eK
  rw [if_neg (by decide)]
theorem jt_eK_6 (x S pr : Int32) (N : Nat → Int32) (K : Nat → Int64) : jt_eK 6 x S pr N K = (K) := by
  unfold jt_eK
  rw [if_neg (by decide)]
theorem jt_eK_7 (x S pr : Int32) (N : Nat → Int32) (K : Nat → Int64) : jt_eK 7 x S pr N K = (K) := by
  unfold jt_eK
  rw [if_neg (by decide)]
theorem jt_eK_8 (x S pr : Int32) (N : Nat → Int32) (K : Nat → Int64) : jt_eK 8 x S pr N K = (K) := by
  unfold jt_eK
  rw [if_neg (by decide)]
theorem jt_eK_9 (x S pr : Int32) (N : Nat → Int32) (K : Nat → Int64) : jt_eK 9 x S pr N K = (K) := by
  unfold jt_eK
  rw [if_neg (by decide)]
theorem jt_eK_10 (x S pr : Int32) (N : Nat → Int32) (K : Nat → Int64) : jt_eK 10 x S pr N K = (jt_pK K pr (N x.toNatClampNeg) (jt_so S x)) := by
  unfold jt_eK
  rw [if_pos rfl]
def jt_eP (op pr : Int32) : Int32 := if op = 10 then (jt_pI pr) else pr
theorem jt_eP_0 (pr : Int32) : jt_eP 0 pr = (pr) := by
  unfold jt_eP
  rw [if_neg (by decide)]
theorem jt_eP_1 (pr : Int32) : jt_eP 1 pr = (pr) := by
  unfold jt_eP
  rw [if_neg (by decide)]
theorem jt_eP_2 (pr : Int32) : jt_eP 2 pr = (pr) := by
  unfold jt_eP
  rw [if_neg (by decide)]
theorem jt_eP_3 (pr : Int32) : jt_eP 3 pr = (pr) := by
  unfold jt_eP
  rw [if_neg (by decide)]
theorem jt_eP_4 (pr : Int32) : jt_eP 4 pr = (pr) := by
  unfold jt_eP
  rw [if_neg (by decide)]
theorem jt_eP_5 (pr : Int32) : jt_eP 5 pr = (pr) := by
  unfold jt_eP
  rw [if_neg (by decide)]
theorem jt_eP_6 (pr : Int32) : jt_eP 6 pr = (pr) := by
  unfold jt_eP
  rw [if_neg (by decide)]
theorem jt_eP_7 (pr : Int32) : jt_eP 7 pr = (pr) := by
  unfold jt_eP
  rw [if_neg (by decide)]
theorem jt_eP_8 (pr : Int32) : jt_eP 8 pr = (pr) := by
  unfold jt_eP
  rw [if_neg (by decide)]
theorem jt_eP_9 (pr : Int32) : jt_eP 9 pr = (pr) := by
  unfold jt_eP
  rw [if_neg (by decide)]
theorem jt_eP_10 (pr : Int32) : jt_eP 10 pr = (jt_pI pr) := by
  unfold jt_eP
  rw [if_pos rfl]
def jt_eL (op x y i S : Int32) (N : Nat → Int32) : Int32 := if op = 8 then (if ¬ jt_so S x = 1 ∧ N x.toNatClampNeg = 0 then y else i + 1) else if op = 9 then (x) else i + 1
theorem jt_eL_0 (x y i S : Int32) (N : Nat → Int32) : jt_eL 0 x y i S N = (i + 1) := by
  unfold jt_eL
  rw [if_neg (by decide), if_neg (by decide)]
theorem jt_eL_1 (x y i S : Int32) (N : Nat → Int32) : jt_eL 1 x y i S N = (i + 1) := by
  unfold jt_eL
  rw [if_neg (by decide), if_neg (by decide)]
theorem jt_eL_2 (x y i S : Int32) (N : Nat → Int32) : jt_eL 2 x y i S N = (i + 1) := by
  unfold jt_eL
  rw [if_neg (by decide), if_neg (by decide)]
theorem jt_eL_3 (x y i S : Int32) (N : Nat → Int32) : jt_eL 3 x y i S N = (i + 1) := by
  unfold jt_eL
  rw [if_neg (by decide), if_neg (by decide)]
theorem jt_eL_4 (x y i S : Int32) (N : Nat → Int32) : jt_eL 4 x y i S N = (i + 1) := by
  unfold jt_eL
  rw [if_neg (by decide), if_neg (by decide)]
theorem jt_eL_5 (x y i S : Int32) (N : Nat → Int32) : jt_eL 5 x y i S N = (i + 1) := by
  unfold jt_eL
  rw [if_neg (by decide), if_neg (by decide)]
theorem jt_eL_6 (x y i S : Int32) (N : Nat → Int32) : jt_eL 6 x y i S N = (i + 1) := by
  unfold jt_eL
  rw [if_neg (by decide), if_neg (by decide)]
theorem jt_eL_7 (x y i S : Int32) (N : Nat → Int32) : jt_eL 7 x y i S N = (i + 1) := by
  unfold jt_eL
  rw [if_neg (by decide), if_neg (by decide)]
theorem jt_eL_8 (x y i S : Int32) (N : Nat → Int32) : jt_eL 8 x y i S N = (if ¬ jt_so S x = 1 ∧ N x.toNatClampNeg = 0 then y else i + 1) := by
  unfold jt_eL
  rw [if_pos rfl]
theorem jt_eL_9 (x y i S : Int32) (N : Nat → Int32) : jt_eL 9 x y i S N = (x) := by
  unfold jt_eL
  rw [if_neg (by decide), if_pos rfl]
theorem jt_eL_10 (x y i S : Int32) (N : Nat → Int32) : jt_eL 10 x y i S N = (i + 1) := by
  unfold jt_eL
  rw [if_neg (by decide), if_neg (by decide)]
def jt_cd (op x y z i S : Int32) (N : Nat → Int32) : Option (Int32 × Int32 × Int32 × Int32) := if op = 0 then (some (0, x, N x.toNatClampNeg, 0)) else if op = 1 then (some (0, x, N x.toNatClampNeg, 0)) else if op = 2 then (some (0, x, N x.toNatClampNeg, 0)) else if op = 3 then (some (1, x, y, 0)) else if op = 4 then (some (if jt_so S y = 1 then 2 else 3, x, y, z)) else if op = 5 then (some (4, x, y, z)) else if op = 6 then (some (5, x, y, z)) else if op = 7 then (if jt_so S y = jt_so S z then some (6, x, y, z) else some (0, x, 0, 0)) else if op = 8 then (if jt_so S x = 2 then some (8, x, N x.toNatClampNeg, if N x.toNatClampNeg = 0 then i + 1 else y) else none) else if op = 10 then (some (7, x, jt_so S x, 0)) else none
theorem jt_cd_0 (x y z i S : Int32) (N : Nat → Int32) : jt_cd 0 x y z i S N = (some (0, x, N x.toNatClampNeg, 0)) := by
  unfold jt_cd
  rw [if_pos rfl]
theorem jt_cd_1 (x y z i S : Int32) (N : Nat → Int32) : jt_cd 1 x y z i S N = (some (0, x, N x.toNatClampNeg, 0)) := by
  unfold jt_cd
  rw [if_neg (by decide), if_pos rfl]
theorem jt_cd_2 (x y z i S : Int32) (N : Nat → Int32) : jt_cd 2 x y z i S N = (some (0, x, N x.toNatClampNeg, 0)) := by
  unfold jt_cd
  rw [if_neg (by decide), if_neg (by decide), if_pos rfl]
theorem jt_cd_3 (x y z i S : Int32) (N : Nat → Int32) : jt_cd 3 x y z i S N = (some (1, x, y, 0)) := by
  unfold jt_cd
  rw [if_neg (by decide), if_neg (by decide), if_neg (by decide), if_pos rfl]
theorem jt_cd_4 (x y z i S : Int32) (N : Nat → Int32) : jt_cd 4 x y z i S N = (some (if jt_so S y = 1 then 2 else 3, x, y, z)) := by
  unfold jt_cd
  rw [if_neg (by decide), if_neg (by decide), if_neg (by decide), if_neg (by decide), if_pos rfl]
theorem jt_cd_5 (x y z i S : Int32) (N : Nat → Int32) : jt_cd 5 x y z i S N = (some (4, x, y, z)) := by
  unfold jt_cd
  rw [if_neg (by decide), if_neg (by decide), if_neg (by decide), if_neg (by decide), if_neg (by decide), if_pos rfl]
theorem jt_cd_6 (x y z i S : Int32) (N : Nat → Int32) : jt_cd 6 x y z i S N = (some (5, x, y, z)) := by
  unfold jt_cd
  rw [if_neg (by decide), if_neg (by decide), if_neg (by decide), if_neg (by decide), if_neg (by decide), if_neg (by decide), if_pos rfl]
theorem jt_cd_7 (x y z i S : Int32) (N : Nat → Int32) : jt_cd 7 x y z i S N = (if jt_so S y = jt_so S z then some (6, x, y, z) else some (0, x, 0, 0)) := by
  unfold jt_cd
  rw [if_neg (by decide), if_neg (by decide), if_neg (by decide), if_neg (by decide), if_neg (by decide), if_neg (by decide), if_neg (by decide), if_pos rfl]
theorem jt_cd_8 (x y z i S : Int32) (N : Nat → Int32) : jt_cd 8 x y z i S N = (if jt_so S x = 2 then some (8, x, N x.toNatClampNeg, if N x.toNatClampNeg = 0 then i + 1 else y) else none) := by
  unfold jt_cd
  rw [if_neg (by decide), if_neg (by decide), if_neg (by decide), if_neg (by decide), if_neg (by decide), if_neg (by decide), if_neg (by decide), if_neg (by decide), if_pos rfl]
theorem jt_cd_9 (x y z i S : Int32) (N : Nat → Int32) : jt_cd 9 x y z i S N = (none) := by
  unfold jt_cd
  rw [if_neg (by decide), if_neg (by decide), if_neg (by decide), if_neg (by decide), if_neg (by decide), if_neg (by decide), if_neg (by decide), if_neg (by decide), if_neg (by decide), if_neg (by decide)]
theorem jt_cd_10 (x y z i S : Int32) (N : Nat → Int32) : jt_cd 10 x y z i S N = (some (7, x, jt_so S x, 0)) := by
  unfold jt_cd
  rw [if_neg (by decide), if_neg (by decide), if_neg (by decide), if_neg (by decide), if_neg (by decide), if_neg (by decide), if_neg (by decide), if_neg (by decide), if_neg (by decide), if_pos rfl]
abbrev jt_fl (op y z S : Int32) : Prop := (op = 4 ∨ op = 5 ∨ op = 6) ∧ ¬ (jt_so S y = 1 ∧ jt_so S z = 1) ∧ ¬ (op = 4 ∧ jt_so S y = 2 ∧ jt_so S z = 2)
def jt_eg (op x y z S : Int32) (g : jt_G) : jt_G := (jt_eN op x y z S g.1, jt_eK op x S g.2.2 g.1 g.2.1, jt_eP op g.2.2)
def jt_ex (op x y z i S : Int32) (g : jt_G) (ct : Int32) : jt_M := (jt_eS op x y z S, jt_eg op x y z S g, jt_eL op x y i S g.1, ct + 1)
def jt_sp (P : jt_P) (M : jt_M) : jt_M ⊕ Int32 :=
  if P.2.2.2.2 ≤ M.2.2.1 then .inr 1
  else if jt_fl (P.1 M.2.2.1.toNatClampNeg) (P.2.2.1 M.2.2.1.toNatClampNeg) (P.2.2.2.1 M.2.2.1.toNatClampNeg) M.1 then .inr 2
  else .inl (jt_ex (P.1 M.2.2.1.toNatClampNeg) (P.2.1 M.2.2.1.toNatClampNeg) (P.2.2.1 M.2.2.1.toNatClampNeg) (P.2.2.2.1 M.2.2.1.toNatClampNeg) M.2.2.1 M.1 M.2.1 M.2.2.2)
theorem jt_sp_end {ops xs ys zs : Nat → Int32} {sz S pl ct : Int32} {g : jt_G} (h : sz ≤ pl) : jt_sp (ops, xs, ys, zs, sz) (S, g, pl, ct) = .inr 1 := by
  unfold jt_sp
  dsimp only
  rw [if_pos h]
theorem jt_sp_fault {ops xs ys zs : Nat → Int32} {sz S pl ct : Int32} {g : jt_G} (h : ¬ sz ≤ pl) (hf : jt_fl (ops pl.toNatClampNeg) (ys pl.toNatClampNeg) (zs pl.toNatClampNeg) S) : jt_sp (ops, xs, ys, zs, sz) (S, g, pl, ct) = .inr 2 := by
  unfold jt_sp
  dsimp only
  rw [if_neg h, if_pos hf]
theorem jt_sp_go {ops xs ys zs : Nat → Int32} {sz S pl ct : Int32} {g : jt_G} (h : ¬ sz ≤ pl) (hf : ¬ jt_fl (ops pl.toNatClampNeg) (ys pl.toNatClampNeg) (zs pl.toNatClampNeg) S) : jt_sp (ops, xs, ys, zs, sz) (S, g, pl, ct) = .inl (jt_ex (ops pl.toNatClampNeg) (xs pl.toNatClampNeg) (ys pl.toNatClampNeg) (zs pl.toNatClampNeg) pl S g ct) := by
  unfold jt_sp
  dsimp only
  rw [if_neg h, if_neg hf]
theorem jt_sp_l {ops xs ys zs : Nat → Int32} {sz S pl ct : Int32} {g : jt_G} {M' : jt_M} (h : jt_sp (ops, xs, ys, zs, sz) (S, g, pl, ct) = .inl M') : ¬ sz ≤ pl ∧ ¬ jt_fl (ops pl.toNatClampNeg) (ys pl.toNatClampNeg) (zs pl.toNatClampNeg) S ∧ M' = jt_ex (ops pl.toNatClampNeg) (xs pl.toNatClampNeg) (ys pl.toNatClampNeg) (zs pl.toNatClampNeg) pl S g ct := by
  by_cases h1 : sz ≤ pl
  · rw [jt_sp_end h1] at h
    cases h
  · by_cases h2 : jt_fl (ops pl.toNatClampNeg) (ys pl.toNatClampNeg) (zs pl.toNatClampNeg) S
    · rw [jt_sp_fault h1 h2] at h
      cases h
    · rw [jt_sp_go h1 h2] at h
      exact ⟨h1, h2, (Sum.inl.inj h).symm⟩
def jt_iok (op x y z : Int32) : Prop :=
  (op = 0 ∧ jt_vr x) ∨ (op = 1 ∧ jt_vr x) ∨ (op = 2 ∧ jt_vr x) ∨ (op = 3 ∧ jt_vr x ∧ jt_vr y) ∨ (op = 4 ∧ jt_vr x ∧ jt_vr y ∧ jt_vr z) ∨ (op = 5 ∧ jt_vr x ∧ jt_vr y ∧ jt_vr z) ∨ (op = 6 ∧ jt_vr x ∧ jt_vr y ∧ jt_vr z) ∨ (op = 7 ∧ jt_vr x ∧ jt_vr y ∧ jt_vr z) ∨ (op = 8 ∧ jt_vr x ∧ jt_tg y) ∨ (op = 9 ∧ jt_tg x) ∨ (op = 10 ∧ jt_vr x)
/-- the program: n instructions, each fit -/
def jt_Pok (P : jt_P) : Prop := ∃ n, n ≤ 24 ∧ P.2.2.2.2 = nI n ∧ ∀ i, i < n → jt_iok (P.1 i) (P.2.1 i) (P.2.2.1 i) (P.2.2.2.1 i)
def jt_pl (pl : Int32) : Prop := ∃ p, p ≤ 24 ∧ pl = nI p
def jt_pr (pr : Int32) : Prop := ∃ q, q < 2 ^ 31 ∧ pr = nI q
def jt_ok (M : jt_M) : Prop := jt_wf M.1 M.2.1.1 ∧ jt_pl M.2.2.1 ∧ jt_pr M.2.1.2.2
theorem jt_at {ops xs ys zs : Nat → Int32} {sz pl : Int32} (hP : jt_Pok (ops, xs, ys, zs, sz)) (hp : jt_pl pl) (h : ¬ sz ≤ pl) : ∃ p, p < 24 ∧ pl = nI p ∧ pl.toNatClampNeg = p ∧ jt_iok (ops p) (xs p) (ys p) (zs p) := by
  obtain ⟨n, hn, e, hi⟩ := hP
  obtain ⟨p, hp, rfl⟩ := hp
  have e' : sz = nI n := e
  rw [e', nI_leI (by omega) (by omega)] at h
  exact ⟨p, by omega, rfl, nI_clamp (by omega), hi p (by omega)⟩
theorem jt_vs2 {n : Int32} (h : jt_vs 2 n) : n = 0 ∨ n = 1 := by
  rcases h with h | ⟨h, _⟩ | ⟨_, h⟩
  · exact absurd h (by decide)
  · exact absurd h (by decide)
  · exact h
theorem jt_vs0 {n : Int32} (h : jt_vs 0 n) : n = 0 := by
  rcases h with h | ⟨_, h⟩ | ⟨h, _⟩
  · exact absurd h (by decide)
  · exact h
  · exact absurd h (by decide)
theorem jt_01 (c : Prop) [Decidable c] : (if c then (1 : Int32) else 0) = 0 ∨ (if c then (1 : Int32) else 0) = 1 := by
  by_cases h : c
  · exact Or.inr (if_pos h)
  · exact Or.inl (if_neg h)
theorem jt_10 (c : Prop) [Decidable c] : (if c then (0 : Int32) else 1) = 0 ∨ (if c then (0 : Int32) else 1) = 1 := by
  by_cases h : c
  · exact Or.inl (if_pos h)
  · exact Or.inr (if_neg h)
theorem jt_or01 {a b : Int32} (ha : a = 0 ∨ a = 1) (hb : b = 0 ∨ b = 1) : a ||| b = 0 ∨ a ||| b = 1 := by
  rcases ha with rfl | rfl <;> rcases hb with rfl | rfl <;> decide
theorem jt_nfl {y z S op : Int32} (hf : ¬ jt_fl op y z S) (ho : op = 4 ∨ op = 5 ∨ op = 6) : (jt_so S y = 1 ∧ jt_so S z = 1) ∨ (op = 4 ∧ jt_so S y = 2 ∧ jt_so S z = 2) :=
  Classical.byContradiction fun hn => hf ⟨ho, fun h => hn (Or.inl h), fun h => hn (Or.inr h)⟩
theorem jt_ex_wf {op x y z S : Int32} {N : Nat → Int32} (h : jt_iok op x y z) (hf : ¬ jt_fl op y z S) (w : jt_wf S N) : jt_wf (jt_eS op x y z S) (jt_eN op x y z S N) := by
  rcases h with ⟨rfl, hx⟩ | ⟨rfl, hx⟩ | ⟨rfl, hx⟩ | ⟨rfl, hx, hy⟩ | ⟨rfl, hx, hy, hz⟩ | ⟨rfl, hx, hy, hz⟩ | ⟨rfl, hx, hy, hz⟩ | ⟨rfl, hx, hy, hz⟩ | ⟨rfl, hx, hy⟩ | ⟨rfl, hx⟩ | ⟨rfl, hx⟩
  · rw [jt_eS_0, jt_eN_0]; exact jt_wf_up w hx (Or.inl rfl)
  · rw [jt_eS_1, jt_eN_1]; exact jt_wf_up w hx (Or.inr (Or.inr ⟨rfl, jt_10 _⟩))
  · rw [jt_eS_2, jt_eN_2]; exact jt_wf_up w hx (Or.inr (Or.inl ⟨rfl, rfl⟩))
  · rw [jt_eS_3, jt_eN_3]; exact jt_wf_up w hx (jt_wf_at w hy)
  · rw [jt_eS_4, jt_eN_4]
    by_cases c : jt_so S y = 1
    · rw [if_pos c, if_pos c]; exact jt_wf_up w hx (Or.inl rfl)
    · rw [if_neg c, if_neg c]
      rcases jt_nfl hf (Or.inl rfl) with ⟨a, _⟩ | ⟨_, a, b⟩
      · exact absurd a c
      · have ya := jt_wf_at w hy
        have zb := jt_wf_at w hz
        rw [a] at ya
        rw [b] at zb
        exact jt_wf_up w hx (Or.inr (Or.inr ⟨rfl, jt_or01 (jt_vs2 ya) (jt_vs2 zb)⟩))
  · rw [jt_eS_5, jt_eN_5]; exact jt_wf_up w hx (Or.inl rfl)
  · rw [jt_eS_6, jt_eN_6]; exact jt_wf_up w hx (Or.inr (Or.inr ⟨rfl, jt_01 _⟩))
  · rw [jt_eS_7, jt_eN_7]; exact jt_wf_up w hx (Or.inr (Or.inr ⟨rfl, jt_01 _⟩))
  · rw [jt_eS_8, jt_eN_8]; exact w
  · rw [jt_eS_9, jt_eN_9]; exact w
  · rw [jt_eS_10, jt_eN_10]; exact w
theorem jt_pl_s {p : Nat} (hp : p < 24) : jt_pl (nI p + 1) := ⟨p + 1, by omega, nI_1 p⟩
theorem jt_pl_t {x : Int32} (h : jt_tg x) : jt_pl x := by
  obtain ⟨a, ha, e⟩ := h
  exact ⟨a, by omega, e⟩
theorem jt_ex_pl {op x y z S : Int32} {p : Nat} {N : Nat → Int32} (hp : p < 24) (h : jt_iok op x y z) : jt_pl (jt_eL op x y (nI p) S N) := by
  rcases h with ⟨rfl, hx⟩ | ⟨rfl, hx⟩ | ⟨rfl, hx⟩ | ⟨rfl, hx, hy⟩ | ⟨rfl, hx, hy, hz⟩ | ⟨rfl, hx, hy, hz⟩ | ⟨rfl, hx, hy, hz⟩ | ⟨rfl, hx, hy, hz⟩ | ⟨rfl, hx, hy⟩ | ⟨rfl, hx⟩ | ⟨rfl, hx⟩
  · rw [jt_eL_0]; exact jt_pl_s hp
  · rw [jt_eL_1]; exact jt_pl_s hp
  · rw [jt_eL_2]; exact jt_pl_s hp
  · rw [jt_eL_3]; exact jt_pl_s hp
  · rw [jt_eL_4]; exact jt_pl_s hp
  · rw [jt_eL_5]; exact jt_pl_s hp
  · rw [jt_eL_6]; exact jt_pl_s hp
  · rw [jt_eL_7]; exact jt_pl_s hp
  · rw [jt_eL_8]
    by_cases c : ¬ jt_so S x = 1 ∧ N x.toNatClampNeg = 0
    · rw [if_pos c]; exact jt_pl_t hy
    · rw [if_neg c]; exact jt_pl_s hp
  · rw [jt_eL_9]; exact jt_pl_t hx
  · rw [jt_eL_10]; exact jt_pl_s hp
theorem jt_pI_ok {pr : Int32} (h : jt_pr pr) : jt_pr (jt_pI pr) := by
  obtain ⟨q, hq, rfl⟩ := h
  unfold jt_pI
  by_cases c : nI q < 2147483647
  · rw [if_pos c]
    have c' := (nI_ltI (a := q) (b := 2147483647) hq (by omega)).mp c
    exact ⟨q + 1, by omega, nI_1 q⟩
  · rw [if_neg c]
    exact ⟨q, hq, rfl⟩
theorem jt_pI_lt {q : Nat} (h : q + 1 < 2 ^ 31) : jt_pI (nI q) = nI (q + 1) := by
  unfold jt_pI
  have c : nI q < 2147483647 := nI_lt (a := q) (b := 2147483647) (by omega) (by omega)
  rw [if_pos c, nI_1]
theorem jt_eP_ok {op pr : Int32} (h : jt_pr pr) : jt_pr (jt_eP op pr) := by
  unfold jt_eP
  by_cases c : op = 10
  · rw [if_pos c]; exact jt_pI_ok h
  · rw [if_neg c]; exact h
theorem jt_sp_ok {P : jt_P} {M M' : jt_M} (hP : jt_Pok P) (ho : jt_ok M) (h : jt_sp P M = .inl M') : jt_ok M' := by
  obtain ⟨ops, xs, ys, zs, sz⟩ := P
  obtain ⟨S, g, pl, ct⟩ := M
  obtain ⟨h1, h2, rfl⟩ := jt_sp_l h
  obtain ⟨w, hp, hr⟩ := ho
  obtain ⟨p, p24, rfl, e, hi⟩ := jt_at hP hp h1
  rw [e] at h2 ⊢
  exact ⟨jt_ex_wf hi h2 w, jt_ex_pl p24 hi, jt_eP_ok hr⟩
def jt_nx (P : jt_P) : Option jt_M → Option jt_M
  | none => none
  | some M => match jt_sp P M with
    | .inl M' => some M'
    | .inr _ => none
def jt_it (P : jt_P) : Nat → jt_M → Option jt_M
  | 0, M => some M
  | j + 1, M => jt_nx P (jt_it P j M)
def jt_rs (P : jt_P) : Nat → jt_M → jt_M × Int32
  | 0, M => (M, 0)
  | n + 1, M => match jt_sp P M with
    | .inl M' => jt_rs P n M'
    | .inr s => (M, s)
theorem jt_nx_l {P : jt_P} {M M' : jt_M} (h : jt_sp P M = .inl M') : jt_nx P (some M) = some M' := by simp only [jt_nx, h]
theorem jt_nx_r {P : jt_P} {M : jt_M} {s : Int32} (h : jt_sp P M = .inr s) : jt_nx P (some M) = none := by simp only [jt_nx, h]
theorem jt_rs_l {P : jt_P} {M M' : jt_M} (n : Nat) (h : jt_sp P M = .inl M') : jt_rs P (n + 1) M = jt_rs P n M' := by simp only [jt_rs, h]
theorem jt_rs_r {P : jt_P} {M : jt_M} {s : Int32} (n : Nat) (h : jt_sp P M = .inr s) : jt_rs P (n + 1) M = (M, s) := by simp only [jt_rs, h]
theorem jt_it_s {P : jt_P} {j : Nat} {M M2 : jt_M} (h : jt_it P (j + 1) M = some M2) : ∃ M1, jt_it P j M = some M1 ∧ jt_sp P M1 = .inl M2 := by
  have h' : jt_nx P (jt_it P j M) = some M2 := h
  cases e : jt_it P j M with
  | none =>
    rw [e] at h'
    have h2 : (none : Option jt_M) = some M2 := h'
    cases h2
  | some M1 =>
    rw [e] at h'
    refine ⟨M1, rfl, ?_⟩
    cases e2 : jt_sp P M1 with
    | inl M3 =>
      rw [jt_nx_l e2] at h'
      cases h'
      rfl
    | inr s =>
      rw [jt_nx_r e2] at h'
      cases h'
theorem jt_it_c {P : jt_P} {j : Nat} {M M1 M2 : jt_M} (h : jt_it P j M = some M1) (h2 : jt_sp P M1 = .inl M2) : jt_it P (j + 1) M = some M2 := by
  show jt_nx P (jt_it P j M) = some M2
  rw [h]
  exact jt_nx_l h2
theorem jt_rs_it {P : jt_P} : ∀ (j n : Nat) (M M' : jt_M), jt_it P j M = some M' → jt_rs P (j + n) M = jt_rs P n M' := by
  intro j
  induction j with
  | zero =>
    intro n M M' h
    cases h
    rw [Nat.zero_add]
  | succ j ih =>
    intro n M M' h
    obtain ⟨M1, h1, h2⟩ := jt_it_s h
    rw [show j + 1 + n = j + (n + 1) from by omega, ih (n + 1) M M1 h1, jt_rs_l n h2]
theorem jt_it_ok {P : jt_P} (hP : jt_Pok P) : ∀ (j : Nat) (M M' : jt_M), jt_ok M → jt_it P j M = some M' → jt_ok M' := by
  intro j
  induction j with
  | zero =>
    intro M M' ho h
    cases h
    exact ho
  | succ j ih =>
    intro M M' ho h
    obtain ⟨M1, h1, h2⟩ := jt_it_s h
    exact jt_sp_ok hP (ih M M1 ho h1) h2
theorem jt_rs_ok {P : jt_P} (hP : jt_Pok P) : ∀ (n : Nat) (M : jt_M), jt_ok M → jt_ok (jt_rs P n M).1 := by
  intro n
  induction n with
  | zero => exact fun M ho => ho
  | succ n ih =>
    intro M ho
    cases e : jt_sp P M with
    | inl M' =>
      rw [jt_rs_l n e]
      exact ih M' (jt_sp_ok hP ho e)
    | inr s =>
      rw [jt_rs_r n e]
      exact ho
theorem jt_it_mono {P P' : jt_P} (hP : jt_Pok P) (hx : ∀ M M', jt_ok M → jt_sp P M = .inl M' → jt_sp P' M = .inl M') : ∀ (j : Nat) (M M' : jt_M), jt_ok M → jt_it P j M = some M' → jt_it P' j M = some M' := by
  intro j
  induction j with
  | zero => exact fun M M' ho h => h
  | succ j ih =>
    intro M M' ho h
    obtain ⟨M1, h1, h2⟩ := jt_it_s h
    exact jt_it_c (ih M M1 ho h1) (hx M1 M' (jt_it_ok hP j M M1 ho h1) h2)
/-- one more instruction at the end: a step that executes stays as it is -/
theorem jt_sp_emit {ops xs ys zs : Nat → Int32} {n : Nat} {op x y z : Int32} (hn : n < 24) : ∀ M M', jt_ok M → jt_sp (ops, xs, ys, zs, nI n) M = .inl M' → jt_sp (upd ops n op, upd xs n x, upd ys n y, upd zs n z, nI (n + 1)) M = .inl M' := by
  intro M M' ho h
  obtain ⟨S, g, pl, ct⟩ := M
  obtain ⟨h1, h2, rfl⟩ := jt_sp_l h
  obtain ⟨w, hp, hr⟩ := ho
  obtain ⟨p, p24, e⟩ := hp
  have e' : pl = nI p := e
  subst e'
  rw [nI_leI (by omega) (by omega)] at h1
  have c : (nI p).toNatClampNeg = p := nI_clamp (by omega)
  have k : p ≠ n := by omega
  have g1 : ¬ nI (n + 1) ≤ nI p := by
    rw [nI_leI (by omega) (by omega)]
    omega
  rw [c] at h2 ⊢
  have h2' : ¬ jt_fl ((upd ops n op) (nI p).toNatClampNeg) ((upd ys n y) (nI p).toNatClampNeg) ((upd zs n z) (nI p).toNatClampNeg) S := by
    rw [c, pk_un k, pk_un k, pk_un k]
    exact h2
  rw [jt_sp_go g1 h2', c, pk_un k, pk_un k, pk_un k, pk_un k]
end
section
/-- what a code that is no guard does -/
def jt_ca (k v a b : Int32) (g : jt_G) : jt_G :=
  if k = 0 then (upd g.1 v.toNatClampNeg a, g.2)
  else if k = 1 then (upd g.1 v.toNatClampNeg (g.1 a.toNatClampNeg), g.2)
  else if k = 2 then (upd g.1 v.toNatClampNeg (g.1 a.toNatClampNeg + g.1 b.toNatClampNeg), g.2)
  else if k = 3 then (upd g.1 v.toNatClampNeg (g.1 a.toNatClampNeg ||| g.1 b.toNatClampNeg), g.2)
  else if k = 4 then (upd g.1 v.toNatClampNeg (g.1 a.toNatClampNeg - g.1 b.toNatClampNeg), g.2)
  else if k = 5 then (upd g.1 v.toNatClampNeg (if g.1 a.toNatClampNeg < g.1 b.toNatClampNeg then 1 else 0), g.2)
  else if k = 6 then (upd g.1 v.toNatClampNeg (if g.1 a.toNatClampNeg = g.1 b.toNatClampNeg then 1 else 0), g.2)
  else (g.1, jt_pK g.2.1 g.2.2 (g.1 v.toNatClampNeg) a, jt_pI g.2.2)
theorem jt_ca_0 (v a b : Int32) (g : jt_G) : jt_ca 0 v a b g = (upd g.1 v.toNatClampNeg a, g.2) := by
  unfold jt_ca
  rw [if_pos rfl]
theorem jt_ca_1 (v a b : Int32) (g : jt_G) : jt_ca 1 v a b g = (upd g.1 v.toNatClampNeg (g.1 a.toNatClampNeg), g.2) := by
  unfold jt_ca
  rw [if_neg (by decide), if_pos rfl]
theorem jt_ca_2 (v a b : Int32) (g : jt_G) : jt_ca 2 v a b g = (upd g.1 v.toNatClampNeg (g.1 a.toNatClampNeg + g.1 b.toNatClampNeg), g.2) := by
  unfold jt_ca
  rw [if_neg (by decide), if_neg (by decide), if_pos rfl]
theorem jt_ca_3 (v a b : Int32) (g : jt_G) : jt_ca 3 v a b g = (upd g.1 v.toNatClampNeg (g.1 a.toNatClampNeg ||| g.1 b.toNatClampNeg), g.2) := by
  unfold jt_ca
  rw [if_neg (by decide), if_neg (by decide), if_neg (by decide), if_pos rfl]
theorem jt_ca_4 (v a b : Int32) (g : jt_G) : jt_ca 4 v a b g = (upd g.1 v.toNatClampNeg (g.1 a.toNatClampNeg - g.1 b.toNatClampNeg), g.2) := by
  unfold jt_ca
  rw [if_neg (by decide), if_neg (by decide), if_neg (by decide), if_neg (by decide), if_pos rfl]
theorem jt_ca_5 (v a b : Int32) (g : jt_G) : jt_ca 5 v a b g = (upd g.1 v.toNatClampNeg (if g.1 a.toNatClampNeg < g.1 b.toNatClampNeg then 1 else 0), g.2) := by
  unfold jt_ca
  rw [if_neg (by decide), if_neg (by decide), if_neg (by decide), if_neg (by decide), if_neg (by decide), if_pos rfl]
theorem jt_ca_6 (v a b : Int32) (g : jt_G) : jt_ca 6 v a b g = (upd g.1 v.toNatClampNeg (if g.1 a.toNatClampNeg = g.1 b.toNatClampNeg then 1 else 0), g.2) := by
  unfold jt_ca
  rw [if_neg (by decide), if_neg (by decide), if_neg (by decide), if_neg (by decide), if_neg (by decide), if_neg (by decide), if_pos rfl]
theorem jt_ca_7 (v a b : Int32) (g : jt_G) : jt_ca 7 v a b g = (g.1, jt_pK g.2.1 g.2.2 (g.1 v.toNatClampNeg) a, jt_pI g.2.2) := by
  unfold jt_ca
  rw [if_neg (by decide), if_neg (by decide), if_neg (by decide), if_neg (by decide), if_neg (by decide), if_neg (by decide), if_neg (by decide)]
/-- a code's operands are fit -/
def jt_cok (k v a b : Int32) : Prop := jt_vr v ∧ (k = 0 ∨ (k = 1 ∧ jt_vr a) ∨ (k = 2 ∧ jt_vr a ∧ jt_vr b) ∨ (k = 3 ∧ jt_vr a ∧ jt_vr b) ∨ (k = 4 ∧ jt_vr a ∧ jt_vr b) ∨ (k = 5 ∧ jt_vr a ∧ jt_vr b) ∨ (k = 6 ∧ jt_vr a ∧ jt_vr b) ∨ k = 7 ∨ k = 8)
def jt_c1 (C : jt_C) (c : Nat) (g : jt_G) : jt_G × Option Nat :=
  if C.1 c = 8 then (if g.1 (C.2.1 c).toNatClampNeg = C.2.2.1 c then (g, none) else (g, some c)) else (jt_ca (C.1 c) (C.2.1 c) (C.2.2.1 c) (C.2.2.2.1 c) g, none)
def jt_c2 (C : jt_C) (c : Nat) : jt_G × Option Nat → jt_G × Option Nat
  | (g, none) => jt_c1 C c g
  | (g, some d) => (g, some d)
def jt_rc (C : jt_C) (b : Nat) : Nat → jt_G → jt_G × Option Nat
  | 0, g => (g, none)
  | m + 1, g => jt_c2 C (b + m) (jt_rc C b m g)
theorem jt_rc_n {C : jt_C} {b m : Nat} {g g1 : jt_G} (h : jt_rc C b m g = (g1, none)) : jt_rc C b (m + 1) g = jt_c1 C (b + m) g1 := by
  show jt_c2 C (b + m) (jt_rc C b m g) = _
  rw [h]
  rfl
theorem jt_rc_s {C : jt_C} {b m d : Nat} {g g1 : jt_G} (h : jt_rc C b m g = (g1, some d)) : jt_rc C b (m + 1) g = (g1, some d) := by
  show jt_c2 C (b + m) (jt_rc C b m g) = _
  rw [h]
  rfl
theorem jt_rc_stay {C : jt_C} {b m d : Nat} {g g1 : jt_G} (h : jt_rc C b m g = (g1, some d)) : ∀ k, jt_rc C b (m + k) g = (g1, some d) := by
  intro k
  induction k with
  | zero => exact h
  | succ k ih => exact jt_rc_s ih
theorem jt_rc_inv {C : jt_C} {b m : Nat} {g g' : jt_G} {o : Option Nat} (h : jt_rc C b (m + 1) g = (g', o)) : (∃ d, o = some d ∧ jt_rc C b m g = (g', some d)) ∨ ∃ g1, jt_rc C b m g = (g1, none) ∧ jt_c1 C (b + m) g1 = (g', o) := by
  cases e : jt_rc C b m g with
  | mk g1 o1 =>
    cases o1 with
    | none =>
      rw [jt_rc_n e] at h
      exact Or.inr ⟨g1, rfl, h⟩
    | some d =>
      rw [jt_rc_s e] at h
      cases h
      exact Or.inl ⟨d, rfl, rfl⟩
theorem jt_c1_leave {C : jt_C} {c d : Nat} {g g' : jt_G} (h : jt_c1 C c g = (g', some d)) : d = c := by
  unfold jt_c1 at h
  by_cases c8 : C.1 c = 8
  · rw [if_pos c8] at h
    by_cases e : g.1 (C.2.1 c).toNatClampNeg = C.2.2.1 c
    · rw [if_pos e] at h
      cases h
    · rw [if_neg e] at h
      cases h
      rfl
  · rw [if_neg c8] at h
    cases h
theorem jt_rc_lt {C : jt_C} {b : Nat} : ∀ (m : Nat) (g g' : jt_G) (c : Nat), jt_rc C b m g = (g', some c) → b ≤ c ∧ c < b + m := by
  intro m
  induction m with
  | zero =>
    intro g g' c h
    have h' : (g, (none : Option Nat)) = (g', some c) := h
    cases h'
  | succ m ih =>
    intro g g' c h
    rcases jt_rc_inv h with ⟨d, ed, h1⟩ | ⟨g1, _, h2⟩
    · cases ed
      have := ih g g' c h1
      omega
    · have := jt_c1_leave h2
      omega
/-- the codes b .. b + m - 1 are the same -/
def jt_Ceq (C C' : jt_C) (b m : Nat) : Prop := ∀ c, b ≤ c → c < b + m → C.1 c = C'.1 c ∧ C.2.1 c = C'.2.1 c ∧ C.2.2.1 c = C'.2.2.1 c ∧ C.2.2.2.1 c = C'.2.2.2.1 c ∧ C.2.2.2.2.1 c = C'.2.2.2.2.1 c ∧ C.2.2.2.2.2 c = C'.2.2.2.2.2 c
theorem jt_c1_congr {C C' : jt_C} {c : Nat} {g : jt_G} (h1 : C.1 c = C'.1 c) (h2 : C.2.1 c = C'.2.1 c) (h3 : C.2.2.1 c = C'.2.2.1 c) (h4 : C.2.2.2.1 c = C'.2.2.2.1 c) : jt_c1 C c g = jt_c1 C' c g := by
  unfold jt_c1
  rw [h1, h2, h3, h4]
theorem jt_rc_congr {C C' : jt_C} {b : Nat} : ∀ (m : Nat) (g : jt_G), jt_Ceq C C' b m → jt_rc C b m g = jt_rc C' b m g := by
  intro m
  induction m with
  | zero => exact fun g _ => rfl
  | succ m ih =>
    intro g h
    have i := ih g (fun c h1 h2 => h c h1 (by omega))
    obtain ⟨a1, a2, a3, a4, _, _⟩ := h (b + m) (by omega) (by omega)
    cases e : jt_rc C b m g with
    | mk g1 o1 =>
      rw [e] at i
      cases o1 with
      | none => rw [jt_rc_n e, jt_rc_n i.symm]; exact jt_c1_congr a1 a2 a3 a4
      | some d => rw [jt_rc_s e, jt_rc_s i.symm]
/-- from place t with sorts S0, the m codes of t do what j steps do: to place p, with sorts s -/
def jt_Snd (P : jt_P) (C : jt_C) (t : Nat) (S0 : Int32) (m j : Nat) (p s : Int32) : Prop :=
  ∀ (g : jt_G) (ct : Int32), jt_ok (S0, g, nI t, ct) →
    (∀ g', jt_rc C (32 * t) m g = (g', none) → jt_it P j (S0, g, nI t, ct) = some (s, g', p, ct + nI j)) ∧
    (∀ g' c, jt_rc C (32 * t) m g = (g', some c) → ∃ q, 1 ≤ q ∧ q ≤ j ∧ C.2.2.2.2.1 c = nI q ∧ jt_it P q (S0, g, nI t, ct) = some (C.2.2.2.2.2 c, g', C.2.2.2.1 c, ct + nI q))
theorem jt_Snd_z {P : jt_P} {C : jt_C} {t : Nat} {S0 : Int32} : jt_Snd P C t S0 0 0 (nI t) S0 := by
  intro g ct _
  refine ⟨fun g' e => ?_, fun g' c e => ?_⟩
  · have e' : (g, (none : Option Nat)) = (g', none) := e
    cases e'
    show some (S0, g, nI t, ct) = some (S0, g, nI t, ct + nI 0)
    rw [nI_0, Int32.add_zero]
  · have e' : (g, (none : Option Nat)) = (g', some c) := e
    cases e'
theorem jt_Snd_congr {P : jt_P} {C C' : jt_C} {t m j : Nat} {S0 p s : Int32} (hC : jt_Ceq C C' (32 * t) m) (h : jt_Snd P C t S0 m j p s) : jt_Snd P C' t S0 m j p s := by
  intro g ct hg
  obtain ⟨h1, h2⟩ := h g ct hg
  rw [jt_rc_congr m g hC] at h1 h2
  refine ⟨h1, fun g' c e => ?_⟩
  obtain ⟨q, q1, qj, e1, e2⟩ := h2 g' c e
  obtain ⟨b1, b2⟩ := jt_rc_lt m g g' c e
  obtain ⟨_, _, _, a4, a5, a6⟩ := hC c b1 b2
  rw [a5] at e1
  rw [a4, a6] at e2
  exact ⟨q, q1, qj, e1, e2⟩
theorem jt_Snd_mono {P P' : jt_P} {C : jt_C} {t m j : Nat} {S0 p s : Int32} (hP : jt_Pok P) (hx : ∀ M M', jt_ok M → jt_sp P M = .inl M' → jt_sp P' M = .inl M') (h : jt_Snd P C t S0 m j p s) : jt_Snd P' C t S0 m j p s := by
  intro g ct hg
  obtain ⟨h1, h2⟩ := h g ct hg
  refine ⟨fun g' e => jt_it_mono hP hx j _ _ hg (h1 g' e), fun g' c e => ?_⟩
  obtain ⟨q, q1, qj, e1, e2⟩ := h2 g' c e
  exact ⟨q, q1, qj, e1, jt_it_mono hP hx q _ _ hg e2⟩
theorem jt_ct (ct : Int32) (j : Nat) : ct + nI j + 1 = ct + nI (j + 1) := by rw [Int32.add_assoc, nI_1]
/-- one more step without a code -/
theorem jt_Snd_0 {P : jt_P} {C : jt_C} {t m j : Nat} {S0 p s p' s' : Int32} (hP : jt_Pok P) (h : jt_Snd P C t S0 m j p s) (hx : ∀ (g : jt_G) (ct : Int32), jt_ok (s, g, p, ct) → jt_sp P (s, g, p, ct) = .inl (s', g, p', ct + 1)) : jt_Snd P C t S0 m (j + 1) p' s' := by
  intro g ct hg
  obtain ⟨h1, h2⟩ := h g ct hg
  refine ⟨fun g' e => ?_, fun g' c e => ?_⟩
  · have i1 := h1 g' e
    rw [← jt_ct]
    exact jt_it_c i1 (hx g' _ (jt_it_ok hP j _ _ hg i1))
  · obtain ⟨q, q1, qj, e1, e2⟩ := h2 g' c e
    exact ⟨q, q1, by omega, e1, e2⟩
/-- one more step with a code -/
theorem jt_Snd_1 {P : jt_P} {C : jt_C} {t m j : Nat} {S0 p s p' s' : Int32} (hP : jt_Pok P) (h : jt_Snd P C t S0 m j p s) (hs : C.2.2.2.2.1 (32 * t + m) = nI (j + 1)) (ho : C.2.2.2.2.2 (32 * t + m) = s')
    (hx : ∀ (g : jt_G) (ct : Int32), jt_ok (s, g, p, ct) → ∃ g2, (jt_c1 C (32 * t + m) g = (g2, none) ∧ jt_sp P (s, g, p, ct) = .inl (s', g2, p', ct + 1)) ∨ (jt_c1 C (32 * t + m) g = (g2, some (32 * t + m)) ∧ jt_sp P (s, g, p, ct) = .inl (s', g2, C.2.2.2.1 (32 * t + m), ct + 1))) : jt_Snd P C t S0 (m + 1) (j + 1) p' s' := by
  intro g ct hg
  obtain ⟨h1, h2⟩ := h g ct hg
  refine ⟨fun g' e => ?_, fun g' c e => ?_⟩
  · rcases jt_rc_inv e with ⟨d, ed, _⟩ | ⟨g1, e1, e2⟩
    · cases ed
    · have i1 := h1 g1 e1
      obtain ⟨g2, ⟨a, b⟩ | ⟨a, b⟩⟩ := hx g1 _ (jt_it_ok hP j _ _ hg i1)
      · rw [a] at e2
        cases e2
        rw [← jt_ct]
        exact jt_it_c i1 b
      · rw [a] at e2
        cases e2
  · rcases jt_rc_inv e with ⟨d, ed, e1⟩ | ⟨g1, e1, e2⟩
    · cases ed
      obtain ⟨q, q1, qj, e3, e4⟩ := h2 g' c e1
      exact ⟨q, q1, by omega, e3, e4⟩
    · have i1 := h1 g1 e1
      obtain ⟨g2, ⟨a, b⟩ | ⟨a, b⟩⟩ := hx g1 _ (jt_it_ok hP j _ _ hg i1)
      · rw [a] at e2
        cases e2
      · rw [a] at e2
        cases e2
        refine ⟨j + 1, by omega, by omega, hs, ?_⟩
        rw [← jt_ct, ho]
        exact jt_it_c i1 b
/-- what compile adds, against the step it was made from -/
theorem jt_cd_none {op x y z i S : Int32} {N : Nat → Int32} {g : jt_G} (h : jt_iok op x y z) (w : jt_wf S N) (wg : jt_wf S g.1) (hc : jt_cd op x y z i S (jt_eN op x y z S N) = none) : jt_eg op x y z S g = g ∧ jt_eL op x y i S g.1 = jt_eL op x y i S N := by
  unfold jt_eg
  rcases h with ⟨rfl, hx⟩ | ⟨rfl, hx⟩ | ⟨rfl, hx⟩ | ⟨rfl, hx, hy⟩ | ⟨rfl, hx, hy, hz⟩ | ⟨rfl, hx, hy, hz⟩ | ⟨rfl, hx, hy, hz⟩ | ⟨rfl, hx, hy, hz⟩ | ⟨rfl, hx, hy⟩ | ⟨rfl, hx⟩ | ⟨rfl, hx⟩
  · rw [jt_cd_0] at hc; cases hc
  · rw [jt_cd_1] at hc; cases hc
  · rw [jt_cd_2] at hc; cases hc
  · rw [jt_cd_3] at hc; cases hc
  · rw [jt_cd_4] at hc; cases hc
  · rw [jt_cd_5] at hc; cases hc
  · rw [jt_cd_6] at hc; cases hc
  · rw [jt_cd_7] at hc
    by_cases c : jt_so S y = jt_so S z
    · rw [if_pos c] at hc; cases hc
    · rw [if_neg c] at hc; cases hc
  · rw [jt_cd_8] at hc
    rw [jt_eN_8, jt_eK_8, jt_eP_8, jt_eL_8, jt_eL_8]
    refine ⟨rfl, ?_⟩
    by_cases c : jt_so S x = 2
    · rw [if_pos c] at hc; cases hc
    · have v1 := jt_wf_at wg hx
      have v2 := jt_wf_at w hx
      rcases v1 with a | ⟨a, b⟩ | ⟨a, _⟩
      · rw [if_neg (fun z => z.1 a), if_neg (fun z => z.1 a)]
      · rw [a] at v2
        have a1 : ¬ jt_so S x = 1 := by rw [a]; decide
        rw [if_pos ⟨a1, b⟩, if_pos ⟨a1, jt_vs0 v2⟩]
      · exact absurd a c
  · rw [jt_eN_9, jt_eK_9, jt_eP_9, jt_eL_9, jt_eL_9]
    exact ⟨rfl, rfl⟩
  · rw [jt_cd_10] at hc; cases hc
theorem jt_cd_cok {op x y z i S k v a b : Int32} {N' : Nat → Int32} (h : jt_iok op x y z) (hc : jt_cd op x y z i S N' = some (k, v, a, b)) : jt_cok k v a b := by
  rcases h with ⟨rfl, hx⟩ | ⟨rfl, hx⟩ | ⟨rfl, hx⟩ | ⟨rfl, hx, hy⟩ | ⟨rfl, hx, hy, hz⟩ | ⟨rfl, hx, hy, hz⟩ | ⟨rfl, hx, hy, hz⟩ | ⟨rfl, hx, hy, hz⟩ | ⟨rfl, hx, hy⟩ | ⟨rfl, hx⟩ | ⟨rfl, hx⟩
  · rw [jt_cd_0] at hc; cases hc; exact ⟨hx, by simp⟩
  · rw [jt_cd_1] at hc; cases hc; exact ⟨hx, by simp⟩
  · rw [jt_cd_2] at hc; cases hc; exact ⟨hx, by simp⟩
  · rw [jt_cd_3] at hc; cases hc; exact ⟨hx, by simp [hy]⟩
  · rw [jt_cd_4] at hc
    by_cases c : jt_so S y = 1
    · rw [if_pos c] at hc; cases hc; exact ⟨hx, by simp [hy, hz]⟩
    · rw [if_neg c] at hc; cases hc; exact ⟨hx, by simp [hy, hz]⟩
  · rw [jt_cd_5] at hc; cases hc; exact ⟨hx, by simp [hy, hz]⟩
  · rw [jt_cd_6] at hc; cases hc; exact ⟨hx, by simp [hy, hz]⟩
  · rw [jt_cd_7] at hc
    by_cases c : jt_so S y = jt_so S z
    · rw [if_pos c] at hc; cases hc; exact ⟨hx, by simp [hy, hz]⟩
    · rw [if_neg c] at hc; cases hc; exact ⟨hx, by simp⟩
  · rw [jt_cd_8] at hc
    by_cases c : jt_so S x = 2
    · rw [if_pos c] at hc; cases hc; exact ⟨hx, by simp⟩
    · rw [if_neg c] at hc; cases hc
  · rw [jt_cd_9] at hc; cases hc
  · rw [jt_cd_10] at hc; cases hc; exact ⟨hx, by simp⟩
/-- a code that is no guard does the step; a guard says which way the step goes -/
theorem jt_cd_some {op x y z i S k v a b : Int32} {N : Nat → Int32} {g : jt_G} (h : jt_iok op x y z) (hf : ¬ jt_fl op y z S) (w : jt_wf S N) (wg : jt_wf S g.1) (hc : jt_cd op x y z i S (jt_eN op x y z S N) = some (k, v, a, b)) : (¬ k = 8 ∧ jt_ca k v a b g = jt_eg op x y z S g ∧ jt_eL op x y i S g.1 = jt_eL op x y i S N) ∨ (k = 8 ∧ jt_eg op x y z S g = g ∧ (g.1 v.toNatClampNeg = a → jt_eL op x y i S g.1 = jt_eL op x y i S N) ∧ (¬ g.1 v.toNatClampNeg = a → jt_eL op x y i S g.1 = b)) := by
  unfold jt_eg
  rcases h with ⟨rfl, hx⟩ | ⟨rfl, hx⟩ | ⟨rfl, hx⟩ | ⟨rfl, hx, hy⟩ | ⟨rfl, hx, hy, hz⟩ | ⟨rfl, hx, hy, hz⟩ | ⟨rfl, hx, hy, hz⟩ | ⟨rfl, hx, hy, hz⟩ | ⟨rfl, hx, hy⟩ | ⟨rfl, hx⟩ | ⟨rfl, hx⟩
  · rw [jt_cd_0] at hc; cases hc
    rw [jt_ca_0, jt_eN_0, jt_eN_0, jt_eK_0, jt_eP_0, jt_eL_0, jt_eL_0, pk_us]
    exact Or.inl ⟨by decide, rfl, rfl⟩
  · rw [jt_cd_1] at hc; cases hc
    rw [jt_ca_0, jt_eN_1, jt_eN_1, jt_eK_1, jt_eP_1, jt_eL_1, jt_eL_1, pk_us]
    exact Or.inl ⟨by decide, rfl, rfl⟩
  · rw [jt_cd_2] at hc; cases hc
    rw [jt_ca_0, jt_eN_2, jt_eN_2, jt_eK_2, jt_eP_2, jt_eL_2, jt_eL_2, pk_us]
    exact Or.inl ⟨by decide, rfl, rfl⟩
  · rw [jt_cd_3] at hc; cases hc
    rw [jt_ca_1, jt_eN_3, jt_eK_3, jt_eP_3, jt_eL_3, jt_eL_3]
    exact Or.inl ⟨by decide, rfl, rfl⟩
  · rw [jt_cd_4] at hc
    by_cases c : jt_so S y = 1
    · rw [if_pos c] at hc; cases hc
      rw [jt_ca_2, jt_eN_4, jt_eK_4, jt_eP_4, jt_eL_4, jt_eL_4, if_pos c]
      exact Or.inl ⟨by decide, rfl, rfl⟩
    · rw [if_neg c] at hc; cases hc
      rw [jt_ca_3, jt_eN_4, jt_eK_4, jt_eP_4, jt_eL_4, jt_eL_4, if_neg c]
      exact Or.inl ⟨by decide, rfl, rfl⟩
  · rw [jt_cd_5] at hc; cases hc
    rw [jt_ca_4, jt_eN_5, jt_eK_5, jt_eP_5, jt_eL_5, jt_eL_5]
    exact Or.inl ⟨by decide, rfl, rfl⟩
  · rw [jt_cd_6] at hc; cases hc
    rw [jt_ca_5, jt_eN_6, jt_eK_6, jt_eP_6, jt_eL_6, jt_eL_6]
    exact Or.inl ⟨by decide, rfl, rfl⟩
  · rw [jt_cd_7] at hc
    by_cases c : jt_so S y = jt_so S z
    · rw [if_pos c] at hc; cases hc
      rw [jt_ca_6, jt_eN_7, jt_eK_7, jt_eP_7, jt_eL_7, jt_eL_7]
      refine Or.inl ⟨by decide, ?_, rfl⟩
      by_cases d : g.1 y.toNatClampNeg = g.1 z.toNatClampNeg
      · rw [if_pos d, if_pos ⟨c, d⟩]
      · rw [if_neg d, if_neg (fun e => d e.2)]
    · rw [if_neg c] at hc; cases hc
      rw [jt_ca_0, jt_eN_7, jt_eK_7, jt_eP_7, jt_eL_7, jt_eL_7]
      refine Or.inl ⟨by decide, ?_, rfl⟩
      rw [if_neg (fun e => c e.1)]
  · rw [jt_cd_8, jt_eN_8] at hc
    by_cases c : jt_so S x = 2
    · rw [if_pos c] at hc; cases hc
      rw [jt_eN_8, jt_eK_8, jt_eP_8, jt_eL_8, jt_eL_8]
      have a1 : ¬ jt_so S x = 1 := by rw [c]; decide
      refine Or.inr ⟨rfl, rfl, fun e => by rw [e], fun e => ?_⟩
      have v1 := jt_wf_at wg hx
      have v2 := jt_wf_at w hx
      rw [c] at v1 v2
      rcases jt_vs2 v2 with r2 | r2
      · rw [if_pos r2]
        rw [r2] at e
        exact if_neg (fun z => e z.2)
      · have n2 : ¬ N x.toNatClampNeg = 0 := by rw [r2]; decide
        rw [if_neg n2]
        rw [r2] at e
        rcases jt_vs2 v1 with r1 | r1
        · exact if_pos ⟨a1, r1⟩
        · exact absurd r1 e
    · rw [if_neg c] at hc; cases hc
  · rw [jt_cd_9] at hc; cases hc
  · rw [jt_cd_10] at hc; cases hc
    rw [jt_ca_7, jt_eN_10, jt_eK_10, jt_eP_10, jt_eL_10, jt_eL_10]
    exact Or.inl ⟨by decide, rfl, rfl⟩
end
section
/-- the codes b .. b + m - 1 have fit operands -/
def jt_Ck (C : jt_C) (b m : Nat) : Prop := ∀ c, b ≤ c → c < b + m → jt_cok (C.1 c) (C.2.1 c) (C.2.2.1 c) (C.2.2.2.1 c)
def jt_T1 (P : jt_P) (C : jt_C) (t : Nat) (js ms S0 s : Int32) : Prop := ∃ j m, js = nI j ∧ ms = nI m ∧ 1 ≤ j ∧ j ≤ 32 ∧ m ≤ j ∧ jt_Ck C (32 * t) m ∧ jt_Snd P C t S0 m j (nI t) s
/-- every trace that stands is sound -/
def jt_Tok (P : jt_P) (C : jt_C) (ts tc se sd : Nat → Int32) : Prop := ∀ t, t < 24 → ¬ ts t = 0 → jt_T1 P C t (ts t) (tc t) (se t) (sd t)
/-- so is what is recorded so far -/
def jt_Rec (P : jt_P) (C : jt_C) (ts se : Nat → Int32) (an rs rk pl S : Int32) : Prop := an = -1 ∨ ∃ t j m, t < 24 ∧ an = nI t ∧ rs = nI j ∧ rk = nI m ∧ ts t = 0 ∧ j ≤ 32 ∧ m ≤ j ∧ jt_Ck C (32 * t) m ∧ jt_Snd P C t (se t) m j pl S
theorem jt_Ck_0 {C : jt_C} {b : Nat} : jt_Ck C b 0 := fun c h1 h2 => absurd h2 (by omega)
theorem jt_Ck_congr {C C' : jt_C} {b m : Nat} (h : jt_Ceq C C' b m) (hk : jt_Ck C b m) : jt_Ck C' b m := by
  intro c h1 h2
  obtain ⟨a1, a2, a3, a4, _, _⟩ := h c h1 h2
  rw [← a1, ← a2, ← a3, ← a4]
  exact hk c h1 h2
theorem jt_Ck_1 {C : jt_C} {b m : Nat} (h : jt_Ck C b m) (h1 : jt_cok (C.1 (b + m)) (C.2.1 (b + m)) (C.2.2.1 (b + m)) (C.2.2.2.1 (b + m))) : jt_Ck C b (m + 1) := by
  intro c hb hc
  by_cases e : c = b + m
  · rw [e]; exact h1
  · exact h c hb (by omega)
theorem jt_T1_congr {P : jt_P} {C C' : jt_C} {t : Nat} {js ms S0 s : Int32} (hC : jt_Ceq C C' (32 * t) 32) (h : jt_T1 P C t js ms S0 s) : jt_T1 P C' t js ms S0 s := by
  obtain ⟨j, m, e1, e2, h1, h2, h3, h4, h5⟩ := h
  have hm : jt_Ceq C C' (32 * t) m := fun c a b => hC c a (by omega)
  exact ⟨j, m, e1, e2, h1, h2, h3, jt_Ck_congr hm h4, jt_Snd_congr hm h5⟩
/-- a code written at c leaves the codes elsewhere alone -/
theorem jt_Ceq_upd {kn cv ca cb cs co : Nat → Int32} {k v a b s o : Int32} {c d m : Nat} (h : c < d ∨ d + m ≤ c) : jt_Ceq (kn, cv, ca, cb, cs, co) (upd kn c k, upd cv c v, upd ca c a, upd cb c b, upd cs c s, upd co c o) d m := by
  intro e h1 h2
  have n : e ≠ c := by omega
  exact ⟨(pk_un n).symm, (pk_un n).symm, (pk_un n).symm, (pk_un n).symm, (pk_un n).symm, (pk_un n).symm⟩
theorem jt_Tok_code {P : jt_P} {kn cv ca cb cs co ts tc se sd : Nat → Int32} {k v a b s o : Int32} {t m : Nat} (ht : ts t = 0) (hm : m < 32) (h : jt_Tok P (kn, cv, ca, cb, cs, co) ts tc se sd) : jt_Tok P (upd kn (32 * t + m) k, upd cv (32 * t + m) v, upd ca (32 * t + m) a, upd cb (32 * t + m) b, upd cs (32 * t + m) s, upd co (32 * t + m) o) ts tc se sd := by
  intro t' h24 hn
  have ne : t' ≠ t := fun e => hn (by rw [e]; exact ht)
  exact jt_T1_congr (jt_Ceq_upd (by omega)) (h t' h24 hn)
theorem jt_c1_at {C : jt_C} {c : Nat} {k v a b : Int32} {g : jt_G} (hk : C.1 c = k) (hv : C.2.1 c = v) (ha : C.2.2.1 c = a) (hb : C.2.2.2.1 c = b) : jt_c1 C c g = (if k = 8 then (if g.1 v.toNatClampNeg = a then (g, none) else (g, some c)) else (jt_ca k v a b g, none)) := by
  subst hk hv ha hb
  rfl
/-- the recording, one more step with a code -/
theorem jt_rec_some {ops xs ys zs kn cv ca cb cs co N : Nat → Int32} {sz p S0 s k v a b op x y z : Int32} {t m j i : Nat} (hP : jt_Pok (ops, xs, ys, zs, sz)) (hz : ¬ sz ≤ p) (hi : p.toNatClampNeg = i) (eo : ops i = op) (ex : xs i = x) (ey : ys i = y) (ez : zs i = z) (hio : jt_iok op x y z) (hf : ¬ jt_fl op y z s) (w : jt_wf s N)
    (hc : jt_cd op x y z p s (jt_eN op x y z s N) = some (k, v, a, b)) (h : jt_Snd (ops, xs, ys, zs, sz) (kn, cv, ca, cb, cs, co) t S0 m j p s) :
    jt_Snd (ops, xs, ys, zs, sz) (upd kn (32 * t + m) k, upd cv (32 * t + m) v, upd ca (32 * t + m) a, upd cb (32 * t + m) b, upd cs (32 * t + m) (nI (j + 1)), upd co (32 * t + m) (jt_eS op x y z s)) t S0 (m + 1) (j + 1) (jt_eL op x y p s N) (jt_eS op x y z s) := by
  subst hi
  have hf' : ¬ jt_fl (ops p.toNatClampNeg) (ys p.toNatClampNeg) (zs p.toNatClampNeg) s := by
    rw [eo, ey, ez]
    exact hf
  refine jt_Snd_1 hP (jt_Snd_congr (jt_Ceq_upd (Or.inr (Nat.le_refl _))) h) pk_us pk_us ?_
  intro g ct ok
  have sp := jt_sp_go (g := g) (ct := ct) (xs := xs) hz hf'
  rw [eo, ex, ey, ez] at sp
  have hc1 : jt_c1 (upd kn (32 * t + m) k, upd cv (32 * t + m) v, upd ca (32 * t + m) a, upd cb (32 * t + m) b, upd cs (32 * t + m) (nI (j + 1)), upd co (32 * t + m) (jt_eS op x y z s)) (32 * t + m) g = (if k = 8 then (if g.1 v.toNatClampNeg = a then (g, none) else (g, some (32 * t + m))) else (jt_ca k v a b g, none)) := jt_c1_at pk_us pk_us pk_us pk_us
  rw [sp, hc1]
  unfold jt_ex
  rcases jt_cd_some hio hf w ok.1 hc with ⟨n8, e1, e2⟩ | ⟨k8, e1, e2, e3⟩
  · rw [if_neg n8, e1]
    exact ⟨_, Or.inl ⟨rfl, by rw [e2]⟩⟩
  · rw [if_pos k8, e1]
    by_cases e : g.1 v.toNatClampNeg = a
    · rw [if_pos e]
      exact ⟨_, Or.inl ⟨rfl, by rw [e2 e]⟩⟩
    · rw [if_neg e]
      refine ⟨g, Or.inr ⟨rfl, ?_⟩⟩
      rw [e3 e]
      show Sum.inl (jt_eS op x y z s, g, b, ct + 1) = Sum.inl (jt_eS op x y z s, g, upd cb (32 * t + m) b (32 * t + m), ct + 1)
      rw [pk_us]
/-- the recording, one more step without a code -/
theorem jt_rec_none {ops xs ys zs N : Nat → Int32} {C : jt_C} {sz p S0 s op x y z : Int32} {t m j i : Nat} (hP : jt_Pok (ops, xs, ys, zs, sz)) (hz : ¬ sz ≤ p) (hi : p.toNatClampNeg = i) (eo : ops i = op) (ex : xs i = x) (ey : ys i = y) (ez : zs i = z) (hio : jt_iok op x y z) (hf : ¬ jt_fl op y z s) (w : jt_wf s N)
    (hc : jt_cd op x y z p s (jt_eN op x y z s N) = none) (h : jt_Snd (ops, xs, ys, zs, sz) C t S0 m j p s) :
    jt_Snd (ops, xs, ys, zs, sz) C t S0 m (j + 1) (jt_eL op x y p s N) (jt_eS op x y z s) := by
  subst hi
  have hf' : ¬ jt_fl (ops p.toNatClampNeg) (ys p.toNatClampNeg) (zs p.toNatClampNeg) s := by
    rw [eo, ey, ez]
    exact hf
  refine jt_Snd_0 hP h ?_
  intro g ct ok
  obtain ⟨e1, e2⟩ := jt_cd_none (g := g) hio w ok.1 hc
  rw [jt_sp_go hz hf', eo, ex, ey, ez]
  unfold jt_ex
  rw [e1, e2]
/-- the reference's sorts are the packed ones -/
def jt_Q (Q : Nat → Int32) (S : Int32) : Prop := ∀ v, v < 6 → Q v = jt_so S (nI v)
theorem jt_Q_at {Q : Nat → Int32} {S x : Int32} (h : jt_Q Q S) (hx : jt_vr x) : Q x.toNatClampNeg = jt_so S x := by
  obtain ⟨a, ha, rfl⟩ := hx
  rw [nI_clamp (by omega)]
  exact h a ha
theorem jt_Q_up {Q : Nat → Int32} {S x s : Int32} (h : jt_Q Q S) (hx : jt_vr x) (hs : jt_sr s) : jt_Q (upd Q x.toNatClampNeg s) (jt_as S x s) := by
  obtain ⟨a, ha, rfl⟩ := hx
  rw [nI_clamp (by omega)]
  intro v hv
  by_cases e : v = a
  · subst e
    rw [pk_us, jt_so_same hv hs]
  · rw [pk_un e, jt_so_other ha hv e hs]
    exact h v hv
theorem jt_orY {a b : Int32} (ha : a = 0 ∨ a = 1) (hb : b = 0 ∨ b = 1) : (a ||| b = 1 ∧ 0 < a + b) ∨ (a ||| b = 0 ∧ ¬ 0 < a + b) := by
  rcases ha with rfl | rfl <;> rcases hb with rfl | rfl <;> decide
theorem jt_Tok_mono {P P' : jt_P} {C : jt_C} {ts tc se sd : Nat → Int32} (hP : jt_Pok P) (hx : ∀ M M', jt_ok M → jt_sp P M = .inl M' → jt_sp P' M = .inl M') (h : jt_Tok P C ts tc se sd) : jt_Tok P' C ts tc se sd := by
  intro t h24 hn
  obtain ⟨j, m, e1, e2, h1, h2, h3, h4, h5⟩ := h t h24 hn
  exact ⟨j, m, e1, e2, h1, h2, h3, h4, jt_Snd_mono hP hx h5⟩
/-- a trace that becomes empty -/
theorem jt_Tok_drop {P : jt_P} {C : jt_C} {ts tc se sd : Nat → Int32} {t : Nat} {s0 : Int32} (h : jt_Tok P C ts tc se sd) : jt_Tok P C (upd ts t 0) tc (upd se t s0) sd := by
  intro t' h24 hn
  have ne : t' ≠ t := fun e => hn (by rw [e]; exact pk_us)
  rw [pk_un ne] at hn ⊢
  rw [pk_un ne]
  exact h t' h24 hn
/-- a trace that is recorded in full -/
theorem jt_Tok_new {P : jt_P} {C : jt_C} {ts tc se sd : Nat → Int32} {t j m : Nat} {s : Int32} (h : jt_Tok P C ts tc se sd) (h1 : 1 ≤ j) (h2 : j ≤ 32) (h3 : m ≤ j) (h4 : jt_Ck C (32 * t) m) (h5 : jt_Snd P C t (se t) m j (nI t) s) : jt_Tok P C (upd ts t (nI j)) (upd tc t (nI m)) se (upd sd t s) := by
  intro t' h24 hn
  by_cases e : t' = t
  · subst e
    rw [pk_us, pk_us, pk_us]
    exact ⟨j, m, rfl, rfl, h1, h2, h3, h4, h5⟩
  · rw [pk_un e] at hn ⊢
    rw [pk_un e, pk_un e]
    exact h t' h24 hn
/-- printed grows by at most one a step -/
theorem jt_eP_le {op : Int32} {q : Nat} (h : q + 1 < 2 ^ 31) : ∃ q', q' ≤ q + 1 ∧ jt_eP op (nI q) = nI q' := by
  unfold jt_eP
  by_cases c : op = 10
  · rw [if_pos c, jt_pI_lt h]
    exact ⟨q + 1, Nat.le_refl _, rfl⟩
  · rw [if_neg c]
    exact ⟨q, by omega, rfl⟩
end
section
section
variable {th sz S pr pl ct st an rs rk : Int32} {ops xs ys zs N : Nat → Int32} {K : Nat → Int64} {ht ts tc se sd kn cv ca cb cs co : Nat → Int32}
theorem jx_sortIn {post : Int32 → Prop} {p v : Int32} (h : post (jt_so p v)) : wpX_sortIn post p v := h
theorem jx_assign {post : SX → Prop} {v s n : Int32} (hv : jt_vr v) (h : post (th, sz, jt_as S v s, pr, pl, ct, st, an, rs, rk, ops, xs, ys, zs, upd N v.toNatClampNeg n, K, ht, ts, tc, se, sd, kn, cv, ca, cb, cs, co)) : wpX_assign post (th, sz, S, pr, pl, ct, st, an, rs, rk, ops, xs, ys, zs, N, K, ht, ts, tc, se, sd, kn, cv, ca, cb, cs, co) v s n := by
  unfold wpX_assign
  exact nm_r (e' := jt_as S v s) rfl ⟨jt_vr_in hv, nm_e h⟩
theorem jx_print32 {post : SX → Prop} (h : post (th, sz, S, jt_pI pr, pl, ct, st, an, rs, rk, ops, xs, ys, zs, N, K, ht, ts, tc, se, sd, kn, cv, ca, cb, cs, co)) : wX_print_32 post th sz S pr pl ct st an rs rk ops xs ys zs N K ht ts tc se sd kn cv ca cb cs co := by
  unfold wX_print_32
  unfold jt_pI at h
  by_cases c : 2147483647 ≤ pr
  · rw [if_neg (Int32.not_lt.mpr c)] at h
    exact br_t c h
  · rw [if_pos (Int32.not_le.mp c)] at h
    exact br_f c (nm_e h)
theorem jx_print {post : SX → Prop} {v s : Int32} (hv : jt_vr v) (hp : jt_pr pr) (h : post (th, sz, S, jt_pI pr, pl, ct, st, an, rs, rk, ops, xs, ys, zs, N, jt_pK K pr (N v.toNatClampNeg) s, ht, ts, tc, se, sd, kn, cv, ca, cb, cs, co)) : wpX_print post (th, sz, S, pr, pl, ct, st, an, rs, rk, ops, xs, ys, zs, N, K, ht, ts, tc, se, sd, kn, cv, ca, cb, cs, co) v s := by
  obtain ⟨q, hq, rfl⟩ := hp
  unfold wpX_print
  unfold jt_pK at h
  by_cases c : (24 : Int32) ≤ nI q
  · rw [if_neg (Int32.not_lt.mpr c)] at h
    exact br_t c (jx_print32 h)
  · rw [if_pos (Int32.not_le.mp c)] at h
    have q24 : q < 24 := by
      have := mt (nI_leI (a := 24) (b := q) (by omega) hq).mpr c
      omega
    exact br_f c ⟨jt_vr_in hv, vp_in_nI q24 (by omega), nm_e (jx_print32 h)⟩
theorem jx_mf88 {post : Int32 → Prop} {op x5 z0 : Int32} (k0 : ¬ x5 = 0 → post 0) (k1 : x5 = 0 → ¬ (op = 4 ∧ ¬ z0 = 0) → post 1) (k2 : x5 = 0 → op = 4 → ¬ z0 = 0 → post 0) : wX_mustFault_88 post op x5 z0 th sz S pr pl ct st an rs rk ops xs ys zs N K ht ts tc se sd kn cv ca cb cs co :=
  ⟨fun h => ⟨fun h4 => ⟨fun hz => k1 h (fun c => c.2 hz), fun hz => k2 h h4 hz⟩, fun h4 => k1 h (fun c => h4 c.1)⟩, k0⟩
theorem jx_mf70 {post : Int32 → Prop} {op a b z0 : Int32} (k0 : ¬ z0 = 0 → post 0) (k1 : z0 = 0 → ¬ (op = 4 ∧ a = 2 ∧ b = 2) → post 1) (k2 : z0 = 0 → op = 4 ∧ a = 2 ∧ b = 2 → post 0) : wX_mustFault_70 post op a b z0 th sz S pr pl ct st an rs rk ops xs ys zs N K ht ts tc se sd kn cv ca cb cs co :=
  ⟨fun ha => ⟨fun hb => jx_mf88 k0 (fun z n => k1 z (fun c => n ⟨c.1, by decide⟩)) (fun z h4 _ => k2 z ⟨h4, ha, hb⟩), fun hb => jx_mf88 k0 (fun z _ => k1 z (fun c => hb c.2.2)) (fun _ _ n => absurd rfl n)⟩, fun ha => jx_mf88 k0 (fun z _ => k1 z (fun c => ha c.2.1)) (fun _ _ n => absurd rfl n)⟩
theorem jx_mf25 {post : Int32 → Prop} {i : Nat} {op : Int32} (hi : i < 24) (ho : op = 4 ∨ op = 5 ∨ op = 6) (k1 : jt_fl op (ys i) (zs i) S → post 1) (k0 : ¬ jt_fl op (ys i) (zs i) S → post 0) : wX_mustFault_25 post (nI i) op th sz S pr pl ct st an rs rk ops xs ys zs N K ht ts tc se sd kn cv ca cb cs co := by
  have hin : vp_in (nI i) 24 := vp_in_nI hi (by omega)
  have e : (nI i).toNatClampNeg = i := nI_clamp (by omega)
  unfold wX_mustFault_25
  rw [e]
  refine ⟨hin, jx_sortIn ⟨hin, jx_sortIn ?_⟩⟩
  by_cases ha : jt_so S (ys i) = 1
  · by_cases hb : jt_so S (zs i) = 1
    · exact br_t ha (br_t hb (jx_mf70 (fun _ => k0 (fun f => f.2.1 ⟨ha, hb⟩)) (fun z => absurd z (by decide)) (fun z => absurd z (by decide))))
    · exact br_t ha (br_f hb (jx_mf70 (fun z => absurd rfl z) (fun _ n => k1 ⟨ho, fun c => hb c.2, n⟩) (fun _ n => k0 (fun f => f.2.2 n))))
  · exact br_f ha (jx_mf70 (fun z => absurd rfl z) (fun _ n => k1 ⟨ho, fun c => ha c.1, n⟩) (fun _ n => k0 (fun f => f.2.2 n)))
theorem jx_mustFault {post : Int32 → Prop} {i : Nat} {op : Int32} (hi : i < 24) (eo : ops i = op) (k1 : jt_fl op (ys i) (zs i) S → post 1) (k0 : ¬ jt_fl op (ys i) (zs i) S → post 0) : wpX_mustFault post (th, sz, S, pr, pl, ct, st, an, rs, rk, ops, xs, ys, zs, N, K, ht, ts, tc, se, sd, kn, cv, ca, cb, cs, co) (nI i) := by
  have hin : vp_in (nI i) 24 := vp_in_nI hi (by omega)
  have e : ops (nI i).toNatClampNeg = op := by rw [nI_clamp (by omega)]; exact eo
  unfold wpX_mustFault
  refine ⟨hin, nm_r e ?_⟩
  by_cases h4 : op = 4
  · exact br_t h4 (jx_mf25 hi (Or.inl h4) k1 k0)
  · by_cases h5 : op = 5
    · exact br_f h4 (br_t h5 (jx_mf25 hi (Or.inr (Or.inl h5)) k1 k0))
    · by_cases h6 : op = 6
      · exact br_f h4 (br_f h5 (br_t h6 (jx_mf25 hi (Or.inr (Or.inr h6)) k1 k0)))
      · exact br_f h4 (br_f h5 (br_f h6 (k0 (fun f => f.1.elim h4 (fun g => g.elim h5 h6)))))
theorem jx_combine {post : SX → Prop} {op v a b : Int32} (ho : op = 4 ∨ op = 5 ∨ op = 6 ∨ op = 7) (hv : jt_vr v) (ha : jt_vr a) (hb : jt_vr b) (k : post (th, sz, jt_eS op v a b S, pr, pl, ct, st, an, rs, rk, ops, xs, ys, zs, jt_eN op v a b S N, K, ht, ts, tc, se, sd, kn, cv, ca, cb, cs, co)) : wpX_combine post (th, sz, S, pr, pl, ct, st, an, rs, rk, ops, xs, ys, zs, N, K, ht, ts, tc, se, sd, kn, cv, ca, cb, cs, co) op v a b := by
  unfold wpX_combine
  refine ⟨jt_vr_in ha, nm_e ⟨jt_vr_in hb, nm_e (jx_sortIn (jx_sortIn ?_))⟩⟩
  rcases ho with rfl | rfl | rfl | rfl
  · rw [jt_eS_4, jt_eN_4] at k
    by_cases c : jt_so S a = 1
    · rw [if_pos c, if_pos c] at k
      exact br_t rfl (br_t c (jx_assign hv k))
    · rw [if_neg c, if_neg c] at k
      refine br_t rfl (br_f c ?_)
      unfold wX_combine_63
      exact br_t rfl (jx_assign hv k)
  · rw [jt_eS_5, jt_eN_5] at k
    refine br_f (by decide) ?_
    unfold wX_combine_63
    exact br_f (by decide) (br_t rfl (jx_assign hv k))
  · rw [jt_eS_6, jt_eN_6] at k
    refine br_f (by decide) ?_
    unfold wX_combine_63
    refine br_f (by decide) (br_f (by decide) (br_t rfl ?_))
    by_cases c : N b.toNatClampNeg ≤ N a.toNatClampNeg
    · rw [if_neg (Int32.not_lt.mpr c)] at k
      exact br_t c (jx_assign hv k)
    · rw [if_pos (Int32.not_le.mp c)] at k
      exact br_f c (jx_assign hv k)
  · rw [jt_eS_7, jt_eN_7] at k
    refine br_f (by decide) ?_
    unfold wX_combine_63
    refine br_f (by decide) (br_f (by decide) (br_f (by decide) ?_))
    by_cases c : jt_so S a = jt_so S b
    · by_cases d : N a.toNatClampNeg = N b.toNatClampNeg
      · rw [if_pos ⟨c, d⟩] at k
        exact br_t c (br_t d (jx_assign hv k))
      · rw [if_neg (fun z => d z.2)] at k
        exact br_t c (br_f d (jx_assign hv k))
    · rw [if_neg (fun z => c z.1)] at k
      exact br_f c (jx_assign hv k)
theorem jx_execute {post : SX → Prop} {i : Nat} {op x y z : Int32} (hi : i < 24) (eo : ops i = op) (ex : xs i = x) (ey : ys i = y) (ez : zs i = z) (h : jt_iok op x y z) (hp : jt_pr pr) (k : post (th, sz, jt_eS op x y z S, jt_eP op pr, jt_eL op x y (nI i) S N, ct, st, an, rs, rk, ops, xs, ys, zs, jt_eN op x y z S N, jt_eK op x S pr N K, ht, ts, tc, se, sd, kn, cv, ca, cb, cs, co)) : wpX_execute post (th, sz, S, pr, pl, ct, st, an, rs, rk, ops, xs, ys, zs, N, K, ht, ts, tc, se, sd, kn, cv, ca, cb, cs, co) (nI i) := by
  have hin : vp_in (nI i) 24 := vp_in_nI hi (by omega)
  have e : (nI i).toNatClampNeg = i := nI_clamp (by omega)
  have eo' : ops (nI i).toNatClampNeg = op := by rw [e]; exact eo
  have ex' : xs (nI i).toNatClampNeg = x := by rw [e]; exact ex
  have ey' : ys (nI i).toNatClampNeg = y := by rw [e]; exact ey
  have ez' : zs (nI i).toNatClampNeg = z := by rw [e]; exact ez
  have kc : ∀ v a : Int32, (op = 4 ∨ op = 5 ∨ op = 6 ∨ op = 7) → jt_vr x → jt_vr y → jt_vr z → wX_execute_205 post (nI i) x y th sz S pr (nI i + 1) ct st an rs rk ops xs ys zs N K ht ts tc se sd kn cv ca cb cs co := by
    intro _ _ ho hx hy hz
    unfold wX_execute_205
    rw [eo', ez']
    refine ⟨hin, hin, jx_combine ho hx hy hz ?_⟩
    rcases ho with rfl | rfl | rfl | rfl
    · rw [jt_eP_4, jt_eL_4, jt_eK_4] at k; exact k
    · rw [jt_eP_5, jt_eL_5, jt_eK_5] at k; exact k
    · rw [jt_eP_6, jt_eL_6, jt_eK_6] at k; exact k
    · rw [jt_eP_7, jt_eL_7, jt_eK_7] at k; exact k
  unfold wpX_execute
  refine ⟨hin, nm_r ex' ⟨hin, nm_r ey' (nm_e ⟨hin, nm_r eo' ?_⟩)⟩⟩
  rcases h with ⟨rfl, hx⟩ | ⟨rfl, hx⟩ | ⟨rfl, hx⟩ | ⟨rfl, hx, hy⟩ | ⟨rfl, hx, hy, hz⟩ | ⟨rfl, hx, hy, hz⟩ | ⟨rfl, hx, hy, hz⟩ | ⟨rfl, hx, hy, hz⟩ | ⟨rfl, hx, hy⟩ | ⟨rfl, hx⟩ | ⟨rfl, hx⟩
  · rw [jt_eS_0, jt_eP_0, jt_eL_0, jt_eN_0, jt_eK_0] at k
    exact br_f (by decide) (br_f (by decide) (br_t rfl (jx_assign hx k)))
  · rw [jt_eS_1, jt_eP_1, jt_eL_1, jt_eN_1, jt_eK_1] at k
    refine br_f (by decide) (br_f (by decide) (br_f (by decide) (br_t rfl (?_))))
    by_cases c : y = 0
    · rw [if_pos c] at k
      exact br_t c (jx_assign hx k)
    · rw [if_neg c] at k
      exact br_f c (jx_assign hx k)
  · rw [jt_eS_2, jt_eP_2, jt_eL_2, jt_eN_2, jt_eK_2] at k
    exact br_f (by decide) (br_f (by decide) (br_f (by decide) (br_f (by decide) (br_t rfl (jx_assign hx k)))))
  · rw [jt_eS_3, jt_eP_3, jt_eL_3, jt_eN_3, jt_eK_3] at k
    exact br_f (by decide) (br_f (by decide) (br_f (by decide) (br_f (by decide) (br_f (by decide) (br_t rfl (jx_sortIn ⟨jt_vr_in hy, jx_assign hx k⟩))))))
  · exact br_f (by decide) (br_f (by decide) (br_f (by decide) (br_f (by decide) (br_f (by decide) (br_f (by decide) (br_t rfl (kc 0 0 (by decide) hx hy hz)))))))
  · exact br_f (by decide) (br_f (by decide) (br_f (by decide) (br_f (by decide) (br_f (by decide) (br_f (by decide) (br_f (by decide) (br_t rfl (kc 0 0 (by decide) hx hy hz))))))))
  · exact br_f (by decide) (br_f (by decide) (br_f (by decide) (br_f (by decide) (br_f (by decide) (br_f (by decide) (br_f (by decide) (br_f (by decide) (br_t rfl (kc 0 0 (by decide) hx hy hz)))))))))
  · exact br_f (by decide) (br_f (by decide) (br_f (by decide) (br_f (by decide) (br_f (by decide) (br_f (by decide) (br_f (by decide) (br_f (by decide) (br_f (by decide) (br_t rfl (kc 0 0 (by decide) hx hy hz))))))))))
  · rw [jt_eS_8, jt_eP_8, jt_eL_8, jt_eN_8, jt_eK_8] at k
    refine br_f (by decide) (br_f (by decide) (br_f (by decide) (br_f (by decide) (br_f (by decide) (br_f (by decide) (br_f (by decide) (br_f (by decide) (br_f (by decide) (br_f (by decide) (br_t rfl (jx_sortIn ?_)))))))))))
    by_cases c : jt_so S x = 1
    · rw [if_neg (fun z => z.1 c)] at k
      exact br_t c k
    · refine br_f c ⟨jt_vr_in hx, ?_⟩
      by_cases d : N x.toNatClampNeg = 0
      · rw [if_pos ⟨c, d⟩] at k
        exact br_t d k
      · rw [if_neg (fun z => d z.2)] at k
        exact br_f d k
  · rw [jt_eS_9, jt_eP_9, jt_eL_9, jt_eN_9, jt_eK_9] at k
    exact br_f (by decide) (br_f (by decide) (br_f (by decide) (br_f (by decide) (br_f (by decide) (br_f (by decide) (br_f (by decide) (br_f (by decide) (br_f (by decide) (br_f (by decide) (br_f (by decide) (br_t rfl (k))))))))))))
  · rw [jt_eS_10, jt_eP_10, jt_eL_10, jt_eN_10, jt_eK_10] at k
    exact br_f (by decide) (br_f (by decide) (br_f (by decide) (br_f (by decide) (br_f (by decide) (br_f (by decide) (br_f (by decide) (br_f (by decide) (br_f (by decide) (br_f (by decide) (br_f (by decide) (br_f (by decide) (br_t rfl (jx_sortIn (jx_print hx hp k))))))))))))))
/-- doStep is the pure step -/
theorem jx_doStep {post : SX → Prop} (hP : jt_Pok (ops, xs, ys, zs, sz)) (ok : jt_ok (S, (N, K, pr), pl, ct))
    (kr : ∀ s, ¬ s = 0 → jt_sp (ops, xs, ys, zs, sz) (S, (N, K, pr), pl, ct) = .inr s → post (th, sz, S, pr, pl, ct, s, an, rs, rk, ops, xs, ys, zs, N, K, ht, ts, tc, se, sd, kn, cv, ca, cb, cs, co))
    (kl : ∀ i op x y z, i < 24 → pl = nI i → ¬ sz ≤ pl → ops i = op → xs i = x → ys i = y → zs i = z → jt_iok op x y z → ¬ jt_fl op y z S → jt_sp (ops, xs, ys, zs, sz) (S, (N, K, pr), pl, ct) = .inl (jt_eS op x y z S, (jt_eN op x y z S N, jt_eK op x S pr N K, jt_eP op pr), jt_eL op x y pl S N, ct + 1) → post (th, sz, jt_eS op x y z S, jt_eP op pr, jt_eL op x y pl S N, ct + 1, st, an, rs, rk, ops, xs, ys, zs, jt_eN op x y z S N, jt_eK op x S pr N K, ht, ts, tc, se, sd, kn, cv, ca, cb, cs, co)) : wpX_doStep post (th, sz, S, pr, pl, ct, st, an, rs, rk, ops, xs, ys, zs, N, K, ht, ts, tc, se, sd, kn, cv, ca, cb, cs, co) := by
  unfold wpX_doStep
  by_cases h : pl < sz
  · have h' : ¬ sz ≤ pl := Int32.not_le.mpr h
    obtain ⟨i, hi, e, ei, hio⟩ := jt_at hP ok.2.1 h'
    refine br_t h ?_
    subst e
    refine jx_mustFault hi rfl (fun f => ?_) (fun f => ?_)
    · refine br_f (by decide) (kr 2 (by decide) (jt_sp_fault h' ?_))
      rw [ei]
      exact f
    · refine br_t rfl (jx_execute hi rfl rfl rfl rfl hio ok.2.2 (nm_e ?_))
      refine kl i _ _ _ _ hi rfl h' rfl rfl rfl rfl hio f ?_
      rw [jt_sp_go h' (by rw [ei]; exact f), ei]
      rfl
  · exact br_f h (kr 1 (by decide) (jt_sp_end (Int32.not_lt.mp h)))
end
end
section
section
variable {th sz S pr pl ct st an rs rk : Int32} {ops xs ys zs N : Nat → Int32} {K : Nat → Int64} {ht ts tc se sd kn cv ca cb cs co : Nat → Int32}
theorem jx_addCode {post : SX → Prop} {t m : Nat} {k v a b : Int32} (ht' : t < 24) (hm : m < 32) (h : post (th, sz, S, pr, pl, ct, st, nI t, rs, nI (m + 1), ops, xs, ys, zs, N, K, ht, ts, tc, se, sd, upd kn (32 * t + m) k, upd cv (32 * t + m) v, upd ca (32 * t + m) a, upd cb (32 * t + m) b, upd cs (32 * t + m) rs, upd co (32 * t + m) S)) : wpX_addCode post (th, sz, S, pr, pl, ct, st, nI t, rs, nI m, ops, xs, ys, zs, N, K, ht, ts, tc, se, sd, kn, cv, ca, cb, cs, co) k v a b := by
  have e : nI t * 32 + nI m = nI (32 * t + m) := by
    have e1 : nI t * 32 = nI (t * 32) := pk_mul t 32
    rw [e1, nI_add, Nat.mul_comm]
  have hin : vp_in (nI (32 * t + m)) 768 := vp_in_nI (by omega) (by omega)
  have ec : (nI (32 * t + m)).toNatClampNeg = 32 * t + m := nI_clamp (by omega)
  unfold wpX_addCode
  refine nm_r e ?_
  rw [ec]
  exact ⟨hin, nm_e ⟨hin, nm_e ⟨hin, nm_e ⟨hin, nm_e ⟨hin, nm_e ⟨hin, nm_e (nm_r (nI_1 m) h)⟩⟩⟩⟩⟩⟩
theorem jx_combining {post : SX → Prop} {i t m : Nat} {op x y z Sb : Int32} (hi : i < 24) (ht' : t < 24) (hm : m < 32) (eo : ops i = op) (ex : xs i = x) (ey : ys i = y) (ez : zs i = z) (ho : op = 4 ∨ op = 5 ∨ op = 6 ∨ op = 7)
    (k1 : ∀ k v a b, jt_cd op x y z (nI i) Sb N = some (k, v, a, b) → post (th, sz, S, pr, pl, ct, st, nI t, rs, nI (m + 1), ops, xs, ys, zs, N, K, ht, ts, tc, se, sd, upd kn (32 * t + m) k, upd cv (32 * t + m) v, upd ca (32 * t + m) a, upd cb (32 * t + m) b, upd cs (32 * t + m) rs, upd co (32 * t + m) S)) : wpX_compileCombining post (th, sz, S, pr, pl, ct, st, nI t, rs, nI m, ops, xs, ys, zs, N, K, ht, ts, tc, se, sd, kn, cv, ca, cb, cs, co) (nI i) Sb := by
  have hin : vp_in (nI i) 24 := vp_in_nI hi (by omega)
  have e : (nI i).toNatClampNeg = i := nI_clamp (by omega)
  have eo' : ops (nI i).toNatClampNeg = op := by rw [e]; exact eo
  have ex' : xs (nI i).toNatClampNeg = x := by rw [e]; exact ex
  have ey' : ys (nI i).toNatClampNeg = y := by rw [e]; exact ey
  have ez' : zs (nI i).toNatClampNeg = z := by rw [e]; exact ez
  have k113 : ∀ kk : Int32, jt_cd op x y z (nI i) Sb N = some (kk, x, y, z) → wX_compileCombining_113 post (nI i) kk th sz S pr pl ct st (nI t) rs (nI m) ops xs ys zs N K ht ts tc se sd kn cv ca cb cs co := by
    intro kk hk
    unfold wX_compileCombining_113
    rw [ex', ey', ez']
    exact ⟨hin, hin, hin, jx_addCode ht' hm (k1 kk x y z hk)⟩
  unfold wpX_compileCombining
  refine ⟨hin, jx_sortIn ⟨hin, jx_sortIn ⟨hin, ?_⟩⟩⟩
  rw [eo', ey', ez']
  rcases ho with rfl | rfl | rfl | rfl
  · refine br_f (by decide) ?_
    unfold wX_compileCombining_54
    rw [eo']
    refine ⟨hin, br_t rfl ?_⟩
    by_cases c : jt_so Sb y = 1
    · exact br_t c (k113 2 (by rw [jt_cd_4, if_pos c]))
    · exact br_f c (k113 3 (by rw [jt_cd_4, if_neg c]))
  · refine br_f (by decide) ?_
    unfold wX_compileCombining_54
    rw [eo']
    exact ⟨hin, br_f (by decide) ⟨hin, br_t rfl (k113 4 (jt_cd_5 ..))⟩⟩
  · refine br_f (by decide) ?_
    unfold wX_compileCombining_54
    rw [eo']
    exact ⟨hin, br_f (by decide) ⟨hin, br_f (by decide) ⟨hin, br_t rfl (k113 5 (jt_cd_6 ..))⟩⟩⟩
  · refine br_t rfl ?_
    by_cases c : jt_so Sb y = jt_so Sb z
    · refine br_t c ?_
      unfold wX_compileCombining_54
      rw [eo']
      exact ⟨hin, br_f (by decide) ⟨hin, br_f (by decide) ⟨hin, br_f (by decide) (k113 6 (by rw [jt_cd_7, if_pos c]))⟩⟩⟩
    · refine br_f c ⟨hin, ?_⟩
      rw [ex']
      exact jx_addCode ht' hm (k1 0 x 0 0 (by rw [jt_cd_7, if_neg c]))
theorem jx_compile {post : SX → Prop} {i t m : Nat} {op x y z Sb : Int32} (hi : i < 24) (ht' : t < 24) (hm : m < 32) (eo : ops i = op) (ex : xs i = x) (ey : ys i = y) (ez : zs i = z) (h : jt_iok op x y z)
    (k0 : jt_cd op x y z (nI i) Sb N = none → post (th, sz, S, pr, pl, ct, st, nI t, rs, nI m, ops, xs, ys, zs, N, K, ht, ts, tc, se, sd, kn, cv, ca, cb, cs, co))
    (k1 : ∀ k v a b, jt_cd op x y z (nI i) Sb N = some (k, v, a, b) → post (th, sz, S, pr, pl, ct, st, nI t, rs, nI (m + 1), ops, xs, ys, zs, N, K, ht, ts, tc, se, sd, upd kn (32 * t + m) k, upd cv (32 * t + m) v, upd ca (32 * t + m) a, upd cb (32 * t + m) b, upd cs (32 * t + m) rs, upd co (32 * t + m) S)) : wpX_compile post (th, sz, S, pr, pl, ct, st, nI t, rs, nI m, ops, xs, ys, zs, N, K, ht, ts, tc, se, sd, kn, cv, ca, cb, cs, co) (nI i) Sb := by
  have hin : vp_in (nI i) 24 := vp_in_nI hi (by omega)
  have e : (nI i).toNatClampNeg = i := nI_clamp (by omega)
  have eo' : ops (nI i).toNatClampNeg = op := by rw [e]; exact eo
  have ex' : xs (nI i).toNatClampNeg = x := by rw [e]; exact ex
  have ey' : ys (nI i).toNatClampNeg = y := by rw [e]; exact ey
  have ez' : zs (nI i).toNatClampNeg = z := by rw [e]; exact ez
  have kc : (op = 4 ∨ op = 5 ∨ op = 6 ∨ op = 7) → wX_compile_173 post (nI i) Sb th sz S pr pl ct st (nI t) rs (nI m) ops xs ys zs N K ht ts tc se sd kn cv ca cb cs co := by
    intro ho
    unfold wX_compile_173
    exact jx_combining hi ht' hm eo ex ey ez ho k1
  have k80 : (op = 0 ∨ op = 1 ∨ op = 2) → jt_vr x → wX_compile_80 post x th sz S pr pl ct st (nI t) rs (nI m) ops xs ys zs N K ht ts tc se sd kn cv ca cb cs co := by
    intro ho hx
    unfold wX_compile_80
    refine ⟨jt_vr_in hx, jx_addCode ht' hm (k1 0 x _ 0 ?_)⟩
    rcases ho with rfl | rfl | rfl
    · rw [jt_cd_0]
    · rw [jt_cd_1]
    · rw [jt_cd_2]
  unfold wpX_compile
  refine ⟨hin, nm_r ex' ⟨hin, nm_r ey' ⟨hin, nm_r eo' ?_⟩⟩⟩
  rcases h with ⟨rfl, hx⟩ | ⟨rfl, hx⟩ | ⟨rfl, hx⟩ | ⟨rfl, hx, hy⟩ | ⟨rfl, hx, hy, hz⟩ | ⟨rfl, hx, hy, hz⟩ | ⟨rfl, hx, hy, hz⟩ | ⟨rfl, hx, hy, hz⟩ | ⟨rfl, hx, hy⟩ | ⟨rfl, hx⟩ | ⟨rfl, hx⟩
  · exact br_f (by decide) (br_f (by decide) (br_t rfl (k80 (by decide) hx)))
  · exact br_f (by decide) (br_f (by decide) (br_f (by decide) (br_t rfl (k80 (by decide) hx))))
  · exact br_f (by decide) (br_f (by decide) (br_f (by decide) (br_f (by decide) (br_t rfl (k80 (by decide) hx)))))
  · exact br_f (by decide) (br_f (by decide) (br_f (by decide) (br_f (by decide) (br_f (by decide) (br_t rfl (jx_addCode ht' hm (k1 1 x y 0 (jt_cd_3 ..))))))))
  · exact br_f (by decide) (br_f (by decide) (br_f (by decide) (br_f (by decide) (br_f (by decide) (br_f (by decide) (br_t rfl (kc (by decide))))))))
  · exact br_f (by decide) (br_f (by decide) (br_f (by decide) (br_f (by decide) (br_f (by decide) (br_f (by decide) (br_f (by decide) (br_t rfl (kc (by decide)))))))))
  · exact br_f (by decide) (br_f (by decide) (br_f (by decide) (br_f (by decide) (br_f (by decide) (br_f (by decide) (br_f (by decide) (br_f (by decide) (br_t rfl (kc (by decide))))))))))
  · exact br_f (by decide) (br_f (by decide) (br_f (by decide) (br_f (by decide) (br_f (by decide) (br_f (by decide) (br_f (by decide) (br_f (by decide) (br_f (by decide) (br_t rfl (kc (by decide)))))))))))
  · refine br_f (by decide) (br_f (by decide) (br_f (by decide) (br_f (by decide) (br_f (by decide) (br_f (by decide) (br_f (by decide) (br_f (by decide) (br_f (by decide) (br_f (by decide) (br_t rfl (jx_sortIn ?_)))))))))))
    rw [jt_cd_8] at k0 k1
    by_cases c : jt_so Sb x = 2
    · rw [if_pos c] at k1
      refine br_t c ⟨jt_vr_in hx, jt_vr_in hx, ?_⟩
      by_cases d : N x.toNatClampNeg = 0
      · rw [if_pos d] at k1
        exact br_t d (jx_addCode ht' hm (k1 _ _ _ _ rfl))
      · rw [if_neg d] at k1
        exact br_f d (jx_addCode ht' hm (k1 _ _ _ _ rfl))
    · rw [if_neg c] at k0
      exact br_f c (k0 rfl)
  · exact br_f (by decide) (br_f (by decide) (br_f (by decide) (br_f (by decide) (br_f (by decide) (br_f (by decide) (br_f (by decide) (br_f (by decide) (br_f (by decide) (br_f (by decide) (br_f (by decide) (br_t rfl (k0 (jt_cd_9 ..)))))))))))))
  · exact br_f (by decide) (br_f (by decide) (br_f (by decide) (br_f (by decide) (br_f (by decide) (br_f (by decide) (br_f (by decide) (br_f (by decide) (br_f (by decide) (br_f (by decide) (br_f (by decide) (br_f (by decide) (br_t rfl (jx_sortIn (jx_addCode ht' hm (k1 7 x _ 0 (jt_cd_10 ..))))))))))))))))
/-- one more step of a recording -/
theorem jx_noteStep {post : SX → Prop} {i t j m : Nat} {op x y z s0 : Int32} {N0 : Nat → Int32} (hP : jt_Pok (ops, xs, ys, zs, sz)) (hi : i < 24) (hz : ¬ sz ≤ nI i) (eo : ops i = op) (ex : xs i = x) (ey : ys i = y) (ez : zs i = z) (h : jt_iok op x y z) (hf : ¬ jt_fl op y z s0) (w : jt_wf s0 N0) (eN : N = jt_eN op x y z s0 N0) (eS : S = jt_eS op x y z s0) (eL : pl = jt_eL op x y (nI i) s0 N0)
    (hT : jt_Tok (ops, xs, ys, zs, sz) (kn, cv, ca, cb, cs, co) ts tc se sd) (ht' : t < 24) (h0 : ts t = 0) (hj : j ≤ 32) (hm : m ≤ j) (hc : jt_Ck (kn, cv, ca, cb, cs, co) (32 * t) m) (hS : jt_Snd (ops, xs, ys, zs, sz) (kn, cv, ca, cb, cs, co) t (se t) m j (nI i) s0)
    (k : ∀ an' rs' rk' ts' tc' sd' kn' cv' ca' cb' cs' co', jt_Tok (ops, xs, ys, zs, sz) (kn', cv', ca', cb', cs', co') ts' tc' se sd' → jt_Rec (ops, xs, ys, zs, sz) (kn', cv', ca', cb', cs', co') ts' se an' rs' rk' pl S → post (th, sz, S, pr, pl, ct, st, an', rs', rk', ops, xs, ys, zs, N, K, ht, ts', tc', se, sd', kn', cv', ca', cb', cs', co')) : wpX_noteStep post (th, sz, S, pr, pl, ct, st, nI t, nI j, nI m, ops, xs, ys, zs, N, K, ht, ts, tc, se, sd, kn, cv, ca, cb, cs, co) (nI i) s0 := by
  have e : (nI i).toNatClampNeg = i := nI_clamp (by omega)
  have et : (nI t).toNatClampNeg = t := nI_clamp (by omega)
  have hit : vp_in (nI t) 24 := vp_in_nI ht' (by omega)
  unfold wpX_noteStep
  by_cases c32 : nI j < 32
  · have j32 : j < 32 := (nI_ltI (a := j) (b := 32) (by omega) (by omega)).mp c32
    refine br_t c32 (nm_r (nI_1 j) ?_)
    have fin : ∀ m' kn' cv' ca' cb' cs' co', m' ≤ j + 1 → jt_Ck (kn', cv', ca', cb', cs', co') (32 * t) m' → jt_Snd (ops, xs, ys, zs, sz) (kn', cv', ca', cb', cs', co') t (se t) m' (j + 1) pl S → jt_Tok (ops, xs, ys, zs, sz) (kn', cv', ca', cb', cs', co') ts tc se sd → ((pl = nI t → (vp_in (nI t) 24 ∧ (∀ q1, q1 = upd ts (nI t).toNatClampNeg (nI (j + 1)) → (vp_in (nI t) 24 ∧ (∀ q2, q2 = upd tc (nI t).toNatClampNeg (nI m') → (vp_in (nI t) 24 ∧ (∀ q3, q3 = upd sd (nI t).toNatClampNeg S → post (th, sz, S, pr, pl, ct, st, -1, nI (j + 1), nI m', ops, xs, ys, zs, N, K, ht, q1, q2, se, q3, kn', cv', ca', cb', cs', co')))))))) ∧ (¬ pl = nI t → post (th, sz, S, pr, pl, ct, st, nI t, nI (j + 1), nI m', ops, xs, ys, zs, N, K, ht, ts, tc, se, sd, kn', cv', ca', cb', cs', co'))) := by
      intro m' kn' cv' ca' cb' cs' co' hm' hc' hS' hT'
      by_cases cp : pl = nI t
      · refine br_t cp ⟨hit, nm_e ⟨hit, nm_e ⟨hit, nm_e (k _ _ _ _ _ _ _ _ _ _ _ _ ?_ (Or.inl rfl))⟩⟩⟩
        rw [et]
        rw [cp] at hS'
        exact jt_Tok_new hT' (by omega) (by omega) hm' hc' hS'
      · exact br_f cp (k _ _ _ _ _ _ _ _ _ _ _ _ hT' (Or.inr ⟨t, j + 1, m', ht', rfl, rfl, rfl, h0, by omega, hm', hc', hS'⟩))
    refine jx_compile hi ht' (by omega) eo ex ey ez h (fun en => ?_) (fun k v a b es => ?_)
    · subst eN eS eL
      exact fin m kn cv ca cb cs co (by omega) hc (jt_rec_none hP hz e eo ex ey ez h hf w en hS) hT
    · subst eN eS eL
      refine fin (m + 1) _ _ _ _ _ _ (by omega) ?_ (jt_rec_some hP hz e eo ex ey ez h hf w es hS) (jt_Tok_code h0 (by omega) hT)
      refine jt_Ck_1 (jt_Ck_congr (jt_Ceq_upd (Or.inr (Nat.le_refl _))) hc) ?_
      dsimp only
      rw [pk_us, pk_us, pk_us, pk_us]
      exact jt_cd_cok h es
  · exact br_f c32 (k _ _ _ _ _ _ _ _ _ _ _ _ hT (Or.inl rfl))
theorem jx_warm {post : SX → Prop} {t : Nat} (ht' : t < 24) (hT : jt_Tok (ops, xs, ys, zs, sz) (kn, cv, ca, cb, cs, co) ts tc se sd) (ea : an = -1)
    (k : ∀ an' rs' rk' ht' ts' se', jt_Tok (ops, xs, ys, zs, sz) (kn, cv, ca, cb, cs, co) ts' tc se' sd → jt_Rec (ops, xs, ys, zs, sz) (kn, cv, ca, cb, cs, co) ts' se' an' rs' rk' (nI t) S → post (th, sz, S, pr, pl, ct, st, an', rs', rk', ops, xs, ys, zs, N, K, ht', ts', tc, se', sd, kn, cv, ca, cb, cs, co)) : wpX_warm post (th, sz, S, pr, pl, ct, st, an, rs, rk, ops, xs, ys, zs, N, K, ht, ts, tc, se, sd, kn, cv, ca, cb, cs, co) (nI t) := by
  have et : (nI t).toNatClampNeg = t := nI_clamp (by omega)
  have hit : vp_in (nI t) 24 := vp_in_nI ht' (by omega)
  unfold wpX_warm
  refine ⟨hit, hit, nm_e ⟨hit, br_c (fun _ => ⟨hit, nm_e ⟨hit, nm_e ⟨hit, nm_e (k _ _ _ _ _ _ ?_ ?_)⟩⟩⟩) (fun _ => k _ _ _ _ _ _ hT (Or.inl ea))⟩⟩
  · rw [et]
    exact jt_Tok_drop hT
  · rw [et]
    refine Or.inr ⟨t, 0, 0, ht', rfl, rfl, rfl, pk_us, by omega, by omega, jt_Ck_0, ?_⟩
    rw [pk_us]
    exact jt_Snd_z
end
end
section
section
variable {th sz S pr pl ct st an rs rk : Int32} {ops xs ys zs N : Nat → Int32} {K : Nat → Int64} {ht ts tc se sd kn cv ca cb cs co : Nat → Int32}
theorem jx_runCode {post : SX → Prop} {c : Nat} {k v a b : Int32} (hc : c < 768) (ek : kn c = k) (ev : cv c = v) (ea : ca c = a) (eb : cb c = b) (k8 : ¬ k = 8) (hk : jt_cok k v a b) (hp : jt_pr pr) (h : post (th, sz, S, (jt_ca k v a b (N, K, pr)).2.2, pl, ct, st, an, rs, rk, ops, xs, ys, zs, (jt_ca k v a b (N, K, pr)).1, (jt_ca k v a b (N, K, pr)).2.1, ht, ts, tc, se, sd, kn, cv, ca, cb, cs, co)) : wpX_runCode post (th, sz, S, pr, pl, ct, st, an, rs, rk, ops, xs, ys, zs, N, K, ht, ts, tc, se, sd, kn, cv, ca, cb, cs, co) (nI c) := by
  have hin : vp_in (nI c) 768 := vp_in_nI hc (by omega)
  have e : (nI c).toNatClampNeg = c := nI_clamp (by omega)
  have ek' : kn (nI c).toNatClampNeg = k := by rw [e]; exact ek
  have ev' : cv (nI c).toNatClampNeg = v := by rw [e]; exact ev
  have ea' : ca (nI c).toNatClampNeg = a := by rw [e]; exact ea
  have eb' : cb (nI c).toNatClampNeg = b := by rw [e]; exact eb
  obtain ⟨hv, hk⟩ := hk
  have iv := jt_vr_in hv
  unfold wpX_runCode
  refine ⟨hin, nm_r ev' ⟨hin, nm_r ea' ⟨hin, nm_r eb' ⟨hin, nm_r ek' ?_⟩⟩⟩⟩
  rcases hk with rfl | ⟨rfl, ha⟩ | ⟨rfl, ha, hb⟩ | ⟨rfl, ha, hb⟩ | ⟨rfl, ha, hb⟩ | ⟨rfl, ha, hb⟩ | ⟨rfl, ha, hb⟩ | rfl | rfl
  · rw [jt_ca_0] at h
    exact br_f (by decide) (br_f (by decide) (br_t rfl (⟨iv, nm_e h⟩)))
  · rw [jt_ca_1] at h
    exact br_f (by decide) (br_f (by decide) (br_f (by decide) (br_t rfl (⟨jt_vr_in ha, iv, nm_e h⟩))))
  · rw [jt_ca_2] at h
    exact br_f (by decide) (br_f (by decide) (br_f (by decide) (br_f (by decide) (br_t rfl (⟨jt_vr_in ha, jt_vr_in hb, iv, nm_e h⟩)))))
  · rw [jt_ca_3] at h
    exact br_f (by decide) (br_f (by decide) (br_f (by decide) (br_f (by decide) (br_f (by decide) (br_t rfl (⟨jt_vr_in ha, jt_vr_in hb, iv, nm_e h⟩))))))
  · rw [jt_ca_4] at h
    exact br_f (by decide) (br_f (by decide) (br_f (by decide) (br_f (by decide) (br_f (by decide) (br_f (by decide) (br_t rfl (⟨jt_vr_in ha, jt_vr_in hb, iv, nm_e h⟩)))))))
  · rw [jt_ca_5] at h
    refine br_f (by decide) (br_f (by decide) (br_f (by decide) (br_f (by decide) (br_f (by decide) (br_f (by decide) (br_f (by decide) (br_t rfl (⟨jt_vr_in ha, jt_vr_in hb, ?_⟩))))))))
    by_cases d : N b.toNatClampNeg ≤ N a.toNatClampNeg
    · rw [if_neg (Int32.not_lt.mpr d)] at h
      exact br_t d ⟨iv, nm_e h⟩
    · rw [if_pos (Int32.not_le.mp d)] at h
      exact br_f d ⟨iv, nm_e h⟩
  · rw [jt_ca_6] at h
    refine br_f (by decide) (br_f (by decide) (br_f (by decide) (br_f (by decide) (br_f (by decide) (br_f (by decide) (br_f (by decide) (br_f (by decide) (br_t rfl (⟨jt_vr_in ha, jt_vr_in hb, ?_⟩)))))))))
    by_cases d : N a.toNatClampNeg = N b.toNatClampNeg
    · rw [if_pos d] at h
      exact br_t d ⟨iv, nm_e h⟩
    · rw [if_neg d] at h
      exact br_f d ⟨iv, nm_e h⟩
  · rw [jt_ca_7] at h
    exact br_f (by decide) (br_t (by decide) (jx_print hv hp h))
  · exact absurd rfl k8
theorem jt_ca_pr {k v a b : Int32} {g : jt_G} (h : jt_pr g.2.2) : jt_pr (jt_ca k v a b g).2.2 := by
  unfold jt_ca
  by_cases c0 : k = 0
  · rw [if_pos c0]; exact h
  rw [if_neg c0]
  by_cases c1 : k = 1
  · rw [if_pos c1]; exact h
  rw [if_neg c1]
  by_cases c2 : k = 2
  · rw [if_pos c2]; exact h
  rw [if_neg c2]
  by_cases c3 : k = 3
  · rw [if_pos c3]; exact h
  rw [if_neg c3]
  by_cases c4 : k = 4
  · rw [if_pos c4]; exact h
  rw [if_neg c4]
  by_cases c5 : k = 5
  · rw [if_pos c5]; exact h
  rw [if_neg c5]
  by_cases c6 : k = 6
  · rw [if_pos c6]; exact h
  rw [if_neg c6]
  exact jt_pI_ok h
/-- the codes of a trace, run one by one -/
theorem jx_trace {post : Int32 → SX → Prop} {t m : Nat} {g0 : jt_G} (ht' : t < 24) (hm : m ≤ 32) (hc : jt_Ck (kn, cv, ca, cb, cs, co) (32 * t) m)
    (kN : ∀ (N' : Nat → Int32) (K' : Nat → Int64) (pr' : Int32), jt_rc (kn, cv, ca, cb, cs, co) (32 * t) m g0 = ((N', K', pr'), none) → post (ts t) (th, sz, sd t, pr', nI t, ct + ts t, st, an, rs, rk, ops, xs, ys, zs, N', K', ht, ts, tc, se, sd, kn, cv, ca, cb, cs, co))
    (kS : ∀ (c : Nat) (N' : Nat → Int32) (K' : Nat → Int64) (pr' : Int32), jt_rc (kn, cv, ca, cb, cs, co) (32 * t) m g0 = ((N', K', pr'), some c) → post (cs c) (th, sz, co c, pr', cb c, ct + cs c, st, an, rs, rk, ops, xs, ys, zs, N', K', ht, ts, tc, se, sd, kn, cv, ca, cb, cs, co)) :
    ∀ (d i n : Nat) (N' : Nat → Int32) (K' : Nat → Int64) (pr' : Int32), i + d = m → d < n → jt_pr pr' → jt_rc (kn, cv, ca, cb, cs, co) (32 * t) i g0 = ((N', K', pr'), none) → wX_runTrace_17 post (nI t) (nI (32 * t + m)) n (nI (32 * t + i)) th sz S pr' pl ct st an rs rk ops xs ys zs N' K' ht ts tc se sd kn cv ca cb cs co := by
  have et : (nI t).toNatClampNeg = t := nI_clamp (by omega)
  have hit : vp_in (nI t) 24 := vp_in_nI ht' (by omega)
  intro d
  induction d with
  | zero =>
    intro i n N' K' pr' hd hn hp hr
    obtain ⟨n, rfl⟩ : ∃ n', n = n' + 1 := ⟨n - 1, by omega⟩
    rw [wX_runTrace_17]
    have ei : i = m := by omega
    subst ei
    refine br_t (nI_le (Nat.le_refl _) (by omega)) ⟨hit, hit, ?_⟩
    rw [et]
    unfold wpX_leaveTrace
    exact nm_e (kN N' K' pr' hr)
  | succ d ih =>
    intro i n N' K' pr' hd hn hp hr
    obtain ⟨n, rfl⟩ : ∃ n', n = n' + 1 := ⟨n - 1, by omega⟩
    rw [wX_runTrace_17]
    have ec : (nI (32 * t + i)).toNatClampNeg = 32 * t + i := nI_clamp (by omega)
    have hin : vp_in (nI (32 * t + i)) 768 := vp_in_nI (by omega) (by omega)
    refine br_f (nI_ge (by omega) (by omega)) ⟨hin, ?_⟩
    rw [ec]
    have ck := hc (32 * t + i) (by omega) (by omega)
    have hr' := jt_rc_n hr
    unfold jt_c1 at hr'
    dsimp only at hr' ck
    by_cases c8 : kn (32 * t + i) = 8
    · rw [if_pos c8] at hr'
      refine br_t c8 ⟨hin, jt_vr_in ck.1, hin, ?_⟩
      by_cases c : N' (cv (32 * t + i)).toNatClampNeg = ca (32 * t + i)
      · rw [if_pos c] at hr'
        refine br_t c (nm_r (nI_1 _) ?_)
        exact ih (i + 1) n N' K' pr' (by omega) (by omega) hp hr'
      · rw [if_neg c] at hr'
        have hs := jt_rc_stay hr' d
        rw [show i + 1 + d = m from by omega] at hs
        refine br_f c ⟨hin, hin, hin, ?_⟩
        unfold wpX_leaveTrace
        exact nm_e (kS _ N' K' pr' hs)
    · rw [if_neg c8] at hr'
      refine br_f c8 (jx_runCode (by omega) rfl rfl rfl rfl c8 ck hp (nm_r (nI_1 _) ?_))
      exact ih (i + 1) n _ _ _ (by omega) (by omega) (jt_ca_pr hp) hr'
theorem jx_runTrace {post : Int32 → SX → Prop} {t l : Nat} (ht' : t < 24) (hl : l < 2 ^ 31) (hle : ¬ nI l < ts t) (hT : jt_T1 (ops, xs, ys, zs, sz) (kn, cv, ca, cb, cs, co) t (ts t) (tc t) S (sd t)) (ok : jt_ok (S, (N, K, pr), nI t, ct))
    (k : ∀ (q : Nat) (S' : Int32) (N' : Nat → Int32) (K' : Nat → Int64) (pr' pl' : Int32), 1 ≤ q → q ≤ l → jt_it (ops, xs, ys, zs, sz) q (S, (N, K, pr), nI t, ct) = some (S', (N', K', pr'), pl', ct + nI q) → post (nI q) (th, sz, S', pr', pl', ct + nI q, st, an, rs, rk, ops, xs, ys, zs, N', K', ht, ts, tc, se, sd, kn, cv, ca, cb, cs, co)) : wpX_runTrace post (th, sz, S, pr, nI t, ct, st, an, rs, rk, ops, xs, ys, zs, N, K, ht, ts, tc, se, sd, kn, cv, ca, cb, cs, co) (nI t) := by
  obtain ⟨j, m, e1, e2, j1, j32, mj, hc, hS⟩ := hT
  have et : (nI t).toNatClampNeg = t := nI_clamp (by omega)
  have hit : vp_in (nI t) 24 := vp_in_nI ht' (by omega)
  have eb : nI t * 32 = nI (32 * t + 0) := by
    have e1 : nI t * 32 = nI (t * 32) := pk_mul t 32
    rw [e1, Nat.mul_comm, Nat.add_zero]
  have ee : nI (32 * t + 0) + tc (nI t).toNatClampNeg = nI (32 * t + m) := by rw [et, e2, nI_add, Nat.add_zero]
  rw [e1, nI_ltI hl (by omega)] at hle
  obtain ⟨hn, hs⟩ := hS (N, K, pr) ct ok
  unfold wpX_runTrace
  refine nm_r eb ⟨hit, nm_r ee ⟨m + 1, ?_⟩⟩
  refine jx_trace (g0 := (N, K, pr)) ht' (by omega) hc ?_ ?_ m 0 (m + 1) N K pr (by omega) (by omega) ok.2.2 rfl
  · intro N' K' pr' hr
    have := k j (sd t) N' K' pr' (nI t) j1 (by omega) (hn _ hr)
    rw [e1]
    exact this
  · intro c N' K' pr' hr
    obtain ⟨q, q1, qj, eq, hi⟩ := hs _ c hr
    have := k q (co c) N' K' pr' (cb c) q1 (by omega) hi
    have eq' : cs c = nI q := eq
    rw [eq']
    exact this
theorem jx_hasTrace {post : Int32 → Prop} {l : Int32} (hP : jt_Pok (ops, xs, ys, zs, sz)) (hpl : jt_pl pl) (k0 : post 0) (k1 : ∀ t, t < 24 → pl = nI t → ¬ ts t = 0 → ¬ l < ts t → se t = S → post 1) : wpX_hasTrace post (th, sz, S, pr, pl, ct, st, an, rs, rk, ops, xs, ys, zs, N, K, ht, ts, tc, se, sd, kn, cv, ca, cb, cs, co) l := by
  unfold wpX_hasTrace
  by_cases h : sz ≤ pl
  · exact br_t h k0
  · obtain ⟨t, ht', e, et, _⟩ := jt_at hP hpl h
    have hit : vp_in pl 24 := by rw [e]; exact vp_in_nI ht' (by omega)
    refine br_f h ⟨hit, ?_⟩
    rw [et]
    refine br_c (fun _ => k0) (fun h0 => ⟨hit, br_c (fun _ => k0) (fun hl => ⟨hit, br_c (fun hs => k1 t ht' e h0 hl hs) (fun _ => k0)⟩)⟩)
/-- one turn of run's loop: some steps of the pure machine, or its end -/
theorem jx_advance {post : Int32 → SX → Prop} {l : Nat} (hl1 : 1 ≤ l) (hl : l < 2 ^ 31) (hP : jt_Pok (ops, xs, ys, zs, sz)) (ok : jt_ok (S, (N, K, pr), pl, ct)) (hT : jt_Tok (ops, xs, ys, zs, sz) (kn, cv, ca, cb, cs, co) ts tc se sd) (hR : jt_Rec (ops, xs, ys, zs, sz) (kn, cv, ca, cb, cs, co) ts se an rs rk pl S)
    (kA : ∀ (q : Nat) (S' pr' pl' ct' an' rs' rk' : Int32) (N' : Nat → Int32) (K' : Nat → Int64) (ht' ts' tc' se' sd' kn' cv' ca' cb' cs' co' : Nat → Int32), 1 ≤ q → q ≤ l → jt_it (ops, xs, ys, zs, sz) q (S, (N, K, pr), pl, ct) = some (S', (N', K', pr'), pl', ct') → jt_Tok (ops, xs, ys, zs, sz) (kn', cv', ca', cb', cs', co') ts' tc' se' sd' → jt_Rec (ops, xs, ys, zs, sz) (kn', cv', ca', cb', cs', co') ts' se' an' rs' rk' pl' S' → post (nI q) (th, sz, S', pr', pl', ct', 0, an', rs', rk', ops, xs, ys, zs, N', K', ht', ts', tc', se', sd', kn', cv', ca', cb', cs', co'))
    (kC : ∀ s, ¬ s = 0 → jt_sp (ops, xs, ys, zs, sz) (S, (N, K, pr), pl, ct) = .inr s → post 1 (th, sz, S, pr, pl, ct, s, an, rs, rk, ops, xs, ys, zs, N, K, ht, ts, tc, se, sd, kn, cv, ca, cb, cs, co)) : wpX_advance post (th, sz, S, pr, pl, ct, 0, an, rs, rk, ops, xs, ys, zs, N, K, ht, ts, tc, se, sd, kn, cv, ca, cb, cs, co) (nI l) := by
  have k25 : wX_advance_25 post th sz S pr pl ct 0 an rs rk ops xs ys zs N K ht ts tc se sd kn cv ca cb cs co := by
    unfold wX_advance_25
    refine jx_doStep hP ok (fun s s0 hs => ?_) (fun i op x y z hi e hz eo ex ey ez hio hf hsp => ?_)
    · refine br_f s0 ?_
      unfold wX_advance_63
      exact br_f s0 (kC s s0 hs)
    · have hit1 : jt_it (ops, xs, ys, zs, sz) 1 (S, (N, K, pr), pl, ct) = some (jt_eS op x y z S, (jt_eN op x y z S N, jt_eK op x S pr N K, jt_eP op pr), jt_eL op x y pl S N, ct + 1) := jt_it_c (j := 0) rfl hsp
      refine br_t rfl ?_
      rcases hR with ra | ⟨t, j, m, ht', rfl, rfl, rfl, h0, hj, hm, hc, hS⟩
      · refine br_t ra ?_
        unfold wX_advance_63
        refine br_t rfl (br_c (fun _ => ?_) (fun hw => ?_))
        · exact kA 1 _ _ _ _ _ _ _ _ _ _ _ _ _ _ _ _ _ _ _ _ (by omega) hl1 hit1 hT (Or.inl ra)
        · have hpl := jt_ex_pl (S := S) (N := N) hi hio
          rw [← e] at hpl
          obtain ⟨t, t24, et⟩ := hpl
          have tl : t ≤ i := by
            rw [e] at hw et
            rw [et] at hw
            have := mt (nI_ltI (a := i) (b := t) (by omega) (by omega)).mpr hw
            omega
          rw [et]
          refine jx_warm (t := t) (by omega) hT ra (fun an' rs' rk' ht' ts' se' hT' hR' => ?_)
          refine kA 1 _ _ _ _ _ _ _ _ _ _ _ _ _ _ _ _ _ _ _ _ (by omega) hl1 ?_ hT' hR'
          rw [hit1, et]
      · have na : ¬ nI t = -1 := by
          intro hh
          have h1 : ¬ nI t < 0 := nI_pos (by omega)
          rw [hh] at h1
          exact h1 (by decide)
        refine br_f na ?_
        subst e
        refine jx_noteStep hP hi hz eo ex ey ez hio hf ok.1 rfl rfl rfl hT ht' h0 hj hm hc hS (fun an' rs' rk' ts' tc' sd' kn' cv' ca' cb' cs' co' hT' hR' => ?_)
        exact kA 1 _ _ _ _ _ _ _ _ _ _ _ _ _ _ _ _ _ _ _ _ (by omega) hl1 hit1 hT' hR'
  unfold wpX_advance
  refine br_c (fun ra => ?_) (fun _ => k25)
  refine jx_hasTrace hP ok.2.1 (br_t rfl k25) (fun t ht' e h0 hlt hs => ?_)
  refine br_f (by decide) ?_
  subst e
  have h1 := hT t ht' h0
  rw [hs] at h1
  refine jx_runTrace ht' hl hlt h1 ok (fun q S' N' K' pr' pl' q1 ql hi => ?_)
  exact kA q _ _ _ _ _ _ _ _ _ _ _ _ _ _ _ _ _ _ _ _ q1 ql hi hT (Or.inl ra)
theorem jx_exit {post : Int32 → SX → Prop} {n l i : Nat} (hl : l < 2 ^ 31) (h : ¬ st = 0 ∨ l = 0) (k : post st (th, sz, S, pr, pl, ct, st, -1, rs, rk, ops, xs, ys, zs, N, K, ht, ts, tc, se, sd, kn, cv, ca, cb, cs, co)) : wX_run_11 post (n + 1) (nI l) (nI i) th sz S pr pl ct st an rs rk ops xs ys zs N K ht ts tc se sd kn cv ca cb cs co := by
  rw [wX_run_11]
  refine br_c (fun _ => k) (fun _ => br_c (fun _ => k) (fun hn => br_c (fun hs => ?_) (fun _ => k)))
  rcases h with h | rfl
  · exact absurd hs h
  · exact absurd (nI_le (Nat.le_refl 0) (by omega)) hn
/-- run's loop is the pure run -/
theorem jx_loop {post : Int32 → SX → Prop} (hP : jt_Pok (ops, xs, ys, zs, sz)) : ∀ (n l i : Nat) (S pr pl ct an rs rk : Int32) (N : Nat → Int32) (K : Nat → Int64) (ht ts tc se sd kn cv ca cb cs co : Nat → Int32), l < n → i + l ≤ 300 → jt_ok (S, (N, K, pr), pl, ct) → jt_Tok (ops, xs, ys, zs, sz) (kn, cv, ca, cb, cs, co) ts tc se sd → jt_Rec (ops, xs, ys, zs, sz) (kn, cv, ca, cb, cs, co) ts se an rs rk pl S →
    (∀ (S' pr' pl' ct' st' rs' rk' : Int32) (N' : Nat → Int32) (K' : Nat → Int64) (ht' ts' tc' se' sd' kn' cv' ca' cb' cs' co' : Nat → Int32), jt_rs (ops, xs, ys, zs, sz) l (S, (N, K, pr), pl, ct) = ((S', (N', K', pr'), pl', ct'), st') → jt_Tok (ops, xs, ys, zs, sz) (kn', cv', ca', cb', cs', co') ts' tc' se' sd' → post st' (th, sz, S', pr', pl', ct', st', -1, rs', rk', ops, xs, ys, zs, N', K', ht', ts', tc', se', sd', kn', cv', ca', cb', cs', co')) →
    wX_run_11 post n (nI l) (nI i) th sz S pr pl ct 0 an rs rk ops xs ys zs N K ht ts tc se sd kn cv ca cb cs co := by
  intro n
  induction n with
  | zero => intro l i S pr pl ct an rs rk N K ht ts tc se sd kn cv ca cb cs co h; omega
  | succ n ih =>
    intro l i S pr pl ct an rs rk N K ht ts tc se sd kn cv ca cb cs co hn hil ok hT hR k
    by_cases l0 : l = 0
    · subst l0
      exact jx_exit (by omega) (Or.inr rfl) (k _ _ _ _ _ _ _ _ _ _ _ _ _ _ _ _ _ _ _ _ rfl hT)
    · rw [wX_run_11]
      refine br_f (nI_ge (b := 300) (by omega) (by omega)) (br_f (nI_nle (by omega) (by omega)) (br_t rfl ?_))
      refine jx_advance (by omega) (by omega) hP ok hT hR ?_ ?_
      · intro q S' pr' pl' ct' an' rs' rk' N' K' ht' ts' tc' se' sd' kn' cv' ca' cb' cs' co' q1 ql hi hT' hR'
        refine nm_r (pk_sub ql) (nm_r (nI_1 i) ?_)
        refine ih (l - q) (i + 1) _ _ _ _ _ _ _ _ _ _ _ _ _ _ _ _ _ _ _ _ (by omega) (by omega) (jt_it_ok hP q _ _ ok hi) hT' hR' ?_
        intro S2 pr2 pl2 ct2 st2 rs2 rk2 N2 K2 ht2 ts2 tc2 se2 sd2 kn2 cv2 ca2 cb2 cs2 co2 hr2 hT2
        refine k _ _ _ _ _ _ _ _ _ _ _ _ _ _ _ _ _ _ _ _ ?_ hT2
        have := jt_rs_it q (l - q) _ _ hi
        rw [show q + (l - q) = l from by omega] at this
        rw [this]
        exact hr2
      · intro s s0 hs
        refine nm_r (pk_sub (a := l) (b := 1) (by omega)) (nm_r (nI_1 i) ?_)
        obtain ⟨n, rfl⟩ : ∃ n', n = n' + 1 := ⟨n - 1, by omega⟩
        refine jx_exit (by omega) (Or.inl s0) (k _ _ _ _ _ _ _ _ _ _ _ _ _ _ _ _ _ _ _ _ ?_ hT)
        obtain ⟨l, rfl⟩ : ∃ l', l = l' + 1 := ⟨l - 1, by omega⟩
        exact jt_rs_r l hs
end
end
section
section
variable {sz S pr pl ct st : Int32} {ops xs ys zs N Q : Nat → Int32} {K : Nat → Int64}
theorem jy_give {post : SY → Prop} {v s n : Int32} (hv : jt_vr v) (h : post (sz, pr, pl, ct, st, ops, xs, ys, zs, upd Q v.toNatClampNeg s, upd N v.toNatClampNeg n, K)) : wpY_give post (sz, pr, pl, ct, st, ops, xs, ys, zs, Q, N, K) v s n := by
  unfold wpY_give
  exact ⟨jt_vr_in hv, nm_e ⟨jt_vr_in hv, nm_e h⟩⟩
theorem jy_typed1 {post : Int32 → Prop} {p : Int32} (h4 : ¬ p < 4) (h7 : ¬ 7 < p) (h : post 1) : wpY_typed post (sz, pr, pl, ct, st, ops, xs, ys, zs, Q, N, K) p := by
  unfold wpY_typed
  exact br_f h4 (br_f h7 h)
theorem jy_typed0 {post : Int32 → Prop} {p : Int32} (h7 : p < 4 ∨ 7 < p) (h : post 0) : wpY_typed post (sz, pr, pl, ct, st, ops, xs, ys, zs, Q, N, K) p := by
  unfold wpY_typed
  rcases h7 with h7 | h7
  · exact br_t h7 h
  · exact br_c (fun _ => h) (fun _ => br_t h7 h)
theorem jy_f57 {post : Int32 → Prop} {i : Nat} {op a b : Int32} (hi : i < 24) (eo : ops i = op) (k1 : ¬ (op = 4 ∧ a = 2 ∧ b = 2) → post 1) (k0 : op = 4 ∧ a = 2 ∧ b = 2 → post 0) : wY_faults_57 post (nI i) a b sz pr pl ct st ops xs ys zs Q N K := by
  have hin : vp_in (nI i) 24 := vp_in_nI hi (by omega)
  have eo' : ops (nI i).toNatClampNeg = op := by rw [nI_clamp (by omega)]; exact eo
  unfold wY_faults_57
  rw [eo']
  exact ⟨hin, br_c (fun h4 => br_c (fun ha => br_c (fun hb => k0 ⟨h4, ha, hb⟩) (fun hb => k1 (fun c => hb c.2.2))) (fun ha => k1 (fun c => ha c.2.1))) (fun h4 => k1 (fun c => h4 c.1))⟩
theorem jy_f456 {post : Int32 → Prop} {i : Nat} {op y z : Int32} (hi : i < 24) (eo : ops i = op) (ey : ys i = y) (ez : zs i = z) (ho : op = 4 ∨ op = 5 ∨ op = 6) (hy : jt_vr y) (hz : jt_vr z) (hQ : jt_Q Q S) (k1 : jt_fl op y z S → post 1) (k0 : ¬ jt_fl op y z S → post 0) : wpY_faults post (sz, pr, pl, ct, st, ops, xs, ys, zs, Q, N, K) (nI i) := by
  have hin : vp_in (nI i) 24 := vp_in_nI hi (by omega)
  have e : (nI i).toNatClampNeg = i := nI_clamp (by omega)
  have eo' : ops (nI i).toNatClampNeg = op := by rw [e]; exact eo
  have ey' : ys (nI i).toNatClampNeg = y := by rw [e]; exact ey
  have ez' : zs (nI i).toNatClampNeg = z := by rw [e]; exact ez
  have h4 : ¬ op < 4 := by rcases ho with rfl | rfl | rfl <;> decide
  have h6 : op ≤ 6 := by rcases ho with rfl | rfl | rfl <;> decide
  unfold wpY_faults
  refine ⟨hin, ?_⟩
  rw [eo', ey', ez']
  refine br_f h4 ⟨hin, br_t h6 ⟨hin, jt_vr_in hy, nm_r (jt_Q_at hQ hy) ⟨hin, jt_vr_in hz, nm_r (jt_Q_at hQ hz) ?_⟩⟩⟩
  by_cases ha : jt_so S y = 1
  · by_cases hb : jt_so S z = 1
    · exact br_t ha (br_t hb (k0 (fun f => f.2.1 ⟨ha, hb⟩)))
    · exact br_t ha (br_f hb (jy_f57 hi eo (fun n => k1 ⟨ho, fun c => hb c.2, n⟩) (fun n => k0 (fun f => f.2.2 n))))
  · exact br_f ha (jy_f57 hi eo (fun n => k1 ⟨ho, fun c => ha c.1, n⟩) (fun n => k0 (fun f => f.2.2 n)))
theorem jy_fno {post : Int32 → Prop} {i : Nat} {op : Int32} (hi : i < 24) (eo : ops i = op) (h : op < 4 ∨ (¬ op < 4 ∧ ¬ op ≤ 6)) (k0 : post 0) : wpY_faults post (sz, pr, pl, ct, st, ops, xs, ys, zs, Q, N, K) (nI i) := by
  have hin : vp_in (nI i) 24 := vp_in_nI hi (by omega)
  have eo' : ops (nI i).toNatClampNeg = op := by rw [nI_clamp (by omega)]; exact eo
  unfold wpY_faults
  refine ⟨hin, ?_⟩
  rw [eo']
  rcases h with h | ⟨h4, h6⟩
  · exact br_t h k0
  · exact br_f h4 ⟨hin, br_f h6 k0⟩
theorem jy_faults {post : Int32 → Prop} {i : Nat} {op x y z : Int32} (hi : i < 24) (eo : ops i = op) (ey : ys i = y) (ez : zs i = z) (h : jt_iok op x y z) (hQ : jt_Q Q S) (k1 : jt_fl op y z S → post 1) (k0 : ¬ jt_fl op y z S → post 0) : wpY_faults post (sz, pr, pl, ct, st, ops, xs, ys, zs, Q, N, K) (nI i) := by
  have kn : ¬ (op = 4 ∨ op = 5 ∨ op = 6) → post 0 := fun n => k0 (fun f => n f.1)
  rcases h with ⟨rfl, hx⟩ | ⟨rfl, hx⟩ | ⟨rfl, hx⟩ | ⟨rfl, hx, hy⟩ | ⟨rfl, hx, hy, hz⟩ | ⟨rfl, hx, hy, hz⟩ | ⟨rfl, hx, hy, hz⟩ | ⟨rfl, hx, hy, hz⟩ | ⟨rfl, hx, hy⟩ | ⟨rfl, hx⟩ | ⟨rfl, hx⟩
  · exact jy_fno hi eo (by decide) (kn (by decide))
  · exact jy_fno hi eo (by decide) (kn (by decide))
  · exact jy_fno hi eo (by decide) (kn (by decide))
  · exact jy_fno hi eo (by decide) (kn (by decide))
  · exact jy_f456 hi eo ey ez (by decide) hy hz hQ k1 k0
  · exact jy_f456 hi eo ey ez (by decide) hy hz hQ k1 k0
  · exact jy_f456 hi eo ey ez (by decide) hy hz hQ k1 k0
  · exact jy_fno hi eo (by decide) (kn (by decide))
  · exact jy_fno hi eo (by decide) (kn (by decide))
  · exact jy_fno hi eo (by decide) (kn (by decide))
  · exact jy_fno hi eo (by decide) (kn (by decide))
theorem jy_calc {post : SY → Prop} {i : Nat} {op x y z : Int32} (hi : i < 24) (eo : ops i = op) (ex : xs i = x) (ey : ys i = y) (ez : zs i = z) (ho : op = 4 ∨ op = 5 ∨ op = 6 ∨ op = 7) (hx : jt_vr x) (hy : jt_vr y) (hz : jt_vr z) (hf : ¬ jt_fl op y z S) (w : jt_wf S N) (hQ : jt_Q Q S) (k : ∀ Q', jt_Q Q' (jt_eS op x y z S) → post (sz, pr, pl, ct, st, ops, xs, ys, zs, Q', jt_eN op x y z S N, K)) : wpY_calculate post (sz, pr, pl, ct, st, ops, xs, ys, zs, Q, N, K) (nI i) := by
  have hin : vp_in (nI i) 24 := vp_in_nI hi (by omega)
  have e : (nI i).toNatClampNeg = i := nI_clamp (by omega)
  have eo' : ops (nI i).toNatClampNeg = op := by rw [e]; exact eo
  have ex' : xs (nI i).toNatClampNeg = x := by rw [e]; exact ex
  have ey' : ys (nI i).toNatClampNeg = y := by rw [e]; exact ey
  have ez' : zs (nI i).toNatClampNeg = z := by rw [e]; exact ez
  have qy := jt_Q_at hQ hy
  have qz := jt_Q_at hQ hz
  have k81 : (op = 4 → jt_so S y = 1) → wY_calculate_81 post (nI i) x y z (N y.toNatClampNeg) (N z.toNatClampNeg) sz pr pl ct st ops xs ys zs Q N K := by
    intro h1
    unfold wY_calculate_81
    rw [eo', qy, qz]
    rcases ho with rfl | rfl | rfl | rfl
    · rw [jt_eS_4, jt_eN_4, if_pos (h1 rfl), if_pos (h1 rfl)] at k
      exact ⟨hin, br_t rfl (jy_give hx (k _ (jt_Q_up hQ hx jt_sr1)))⟩
    · rw [jt_eS_5, jt_eN_5] at k
      exact ⟨hin, br_f (by decide) ⟨hin, br_t rfl (jy_give hx (k _ (jt_Q_up hQ hx jt_sr1)))⟩⟩
    · rw [jt_eS_6, jt_eN_6] at k
      refine ⟨hin, br_f (by decide) ⟨hin, br_f (by decide) ⟨hin, br_t rfl ?_⟩⟩⟩
      by_cases c : N z.toNatClampNeg ≤ N y.toNatClampNeg
      · rw [if_neg (Int32.not_lt.mpr c)] at k
        exact br_t c (jy_give hx (k _ (jt_Q_up hQ hx jt_sr2)))
      · rw [if_pos (Int32.not_le.mp c)] at k
        exact br_f c (jy_give hx (k _ (jt_Q_up hQ hx jt_sr2)))
    · rw [jt_eS_7, jt_eN_7] at k
      refine ⟨hin, br_f (by decide) ⟨hin, br_f (by decide) ⟨hin, br_f (by decide) ⟨jt_vr_in hy, jt_vr_in hz, ?_⟩⟩⟩⟩
      by_cases c : jt_so S y = jt_so S z
      · by_cases d : N y.toNatClampNeg = N z.toNatClampNeg
        · rw [if_pos ⟨c, d⟩] at k
          exact br_t c (br_t d (jy_give hx (k _ (jt_Q_up hQ hx jt_sr2))))
        · rw [if_neg (fun g => d g.2)] at k
          exact br_t c (br_f d (jy_give hx (k _ (jt_Q_up hQ hx jt_sr2))))
      · rw [if_neg (fun g => c g.1)] at k
        exact br_f c (jy_give hx (k _ (jt_Q_up hQ hx jt_sr2)))
  unfold wpY_calculate
  refine ⟨hin, nm_r ex' ⟨hin, nm_r ey' ⟨hin, nm_r ez' ⟨jt_vr_in hy, nm_e ⟨jt_vr_in hz, nm_e ⟨hin, ?_⟩⟩⟩⟩⟩⟩
  rw [eo']
  by_cases h4 : op = 4
  · refine br_t h4 ⟨jt_vr_in hy, ?_⟩
    rw [qy]
    subst h4
    rcases jt_nfl hf (Or.inl rfl) with ⟨a, b⟩ | ⟨_, a, b⟩
    · have n2 : ¬ jt_so S y = 2 := by rw [a]; decide
      exact br_f n2 (k81 (fun _ => a))
    · have n1 : ¬ jt_so S y = 1 := by rw [a]; decide
      rw [jt_eS_4, jt_eN_4, if_neg n1, if_neg n1] at k
      have va := jt_wf_at w hy
      have vb := jt_wf_at w hz
      rw [a] at va
      rw [b] at vb
      refine br_t a ?_
      rcases jt_orY (jt_vs2 va) (jt_vs2 vb) with ⟨o, g⟩ | ⟨o, g⟩
      · rw [o] at k
        exact br_f (Int32.not_le.mpr g) (jy_give hx (k _ (jt_Q_up hQ hx jt_sr2)))
      · rw [o] at k
        exact br_t (Int32.not_lt.mp g) (jy_give hx (k _ (jt_Q_up hQ hx jt_sr2)))
  · exact br_f h4 (k81 (fun h => absurd h h4))
theorem jy_execute {post : SY → Prop} {i q : Nat} {op x y z : Int32} (hi : i < 24) (eo : ops i = op) (ex : xs i = x) (ey : ys i = y) (ez : zs i = z) (h : jt_iok op x y z) (hf : ¬ jt_fl op y z S) (w : jt_wf S N) (hQ : jt_Q Q S) (hq : q + 1 < 2 ^ 31)
    (k : ∀ Q', jt_Q Q' (jt_eS op x y z S) → post (sz, jt_eP op (nI q), jt_eL op x y (nI i) S N, ct, st, ops, xs, ys, zs, Q', jt_eN op x y z S N, jt_eK op x S (nI q) N K)) : wpY_execute post (sz, nI q, nI i, ct, st, ops, xs, ys, zs, Q, N, K) (nI i) := by
  have hin : vp_in (nI i) 24 := vp_in_nI hi (by omega)
  have e : (nI i).toNatClampNeg = i := nI_clamp (by omega)
  have eo' : ops (nI i).toNatClampNeg = op := by rw [e]; exact eo
  have ex' : xs (nI i).toNatClampNeg = x := by rw [e]; exact ex
  have ey' : ys (nI i).toNatClampNeg = y := by rw [e]; exact ey
  have kc : (op = 4 ∨ op = 5 ∨ op = 6 ∨ op = 7) → jt_vr x → jt_vr y → jt_vr z → ∀ (J : SY → Prop), (∀ u, post u → J u) → wpY_calculate J (sz, nI q, nI i + 1, ct, st, ops, xs, ys, zs, Q, N, K) (nI i) := by
    intro ho hx hy hz J hJ
    refine jy_calc hi eo ex ey ez ho hx hy hz hf w hQ (fun Q' hQ' => hJ _ ?_)
    have := k Q' hQ'
    rcases ho with rfl | rfl | rfl | rfl
    · rw [jt_eP_4, jt_eL_4, jt_eK_4] at this; exact this
    · rw [jt_eP_5, jt_eL_5, jt_eK_5] at this; exact this
    · rw [jt_eP_6, jt_eL_6, jt_eK_6] at this; exact this
    · rw [jt_eP_7, jt_eL_7, jt_eK_7] at this; exact this
  unfold wpY_execute
  refine ⟨hin, nm_r ex' ⟨hin, nm_r ey' (nm_e ⟨hin, ?_⟩)⟩⟩
  rw [eo']
  rcases h with ⟨rfl, hx⟩ | ⟨rfl, hx⟩ | ⟨rfl, hx⟩ | ⟨rfl, hx, hy⟩ | ⟨rfl, hx, hy, hz⟩ | ⟨rfl, hx, hy, hz⟩ | ⟨rfl, hx, hy, hz⟩ | ⟨rfl, hx, hy, hz⟩ | ⟨rfl, hx, hy⟩ | ⟨rfl, hx⟩ | ⟨rfl, hx⟩
  · rw [jt_eS_0, jt_eP_0, jt_eL_0, jt_eN_0, jt_eK_0] at k
    exact br_t rfl (jy_give hx (k _ (jt_Q_up hQ hx jt_sr1)))
  · rw [jt_eS_1, jt_eP_1, jt_eL_1, jt_eN_1, jt_eK_1] at k
    refine br_f (by decide) ⟨hin, br_t rfl ?_⟩
    by_cases c : y = 0
    · rw [if_pos c] at k
      exact br_t c (jy_give hx (k _ (jt_Q_up hQ hx jt_sr2)))
    · rw [if_neg c] at k
      exact br_f c (jy_give hx (k _ (jt_Q_up hQ hx jt_sr2)))
  · rw [jt_eS_2, jt_eP_2, jt_eL_2, jt_eN_2, jt_eK_2] at k
    exact br_f (by decide) ⟨hin, br_f (by decide) ⟨hin, br_t rfl (jy_give hx (k _ (jt_Q_up hQ hx jt_sr0)))⟩⟩
  · rw [jt_eS_3, jt_eP_3, jt_eL_3, jt_eN_3, jt_eK_3] at k
    refine br_f (by decide) ⟨hin, br_f (by decide) ⟨hin, br_f (by decide) ⟨hin, br_t rfl ⟨jt_vr_in hy, jt_vr_in hy, jy_give hx ?_⟩⟩⟩⟩
    rw [jt_Q_at hQ hy]
    exact k _ (jt_Q_up hQ hx (jt_vs_sr (jt_wf_at w hy)))
  · exact br_f (by decide) ⟨hin, br_f (by decide) ⟨hin, br_f (by decide) ⟨hin, br_f (by decide) ⟨hin, jy_typed1 (by decide) (by decide) (br_f (by decide) (kc (by decide) hx hy hz _ (fun _ hu => hu)))⟩⟩⟩⟩
  · exact br_f (by decide) ⟨hin, br_f (by decide) ⟨hin, br_f (by decide) ⟨hin, br_f (by decide) ⟨hin, jy_typed1 (by decide) (by decide) (br_f (by decide) (kc (by decide) hx hy hz _ (fun _ hu => hu)))⟩⟩⟩⟩
  · exact br_f (by decide) ⟨hin, br_f (by decide) ⟨hin, br_f (by decide) ⟨hin, br_f (by decide) ⟨hin, jy_typed1 (by decide) (by decide) (br_f (by decide) (kc (by decide) hx hy hz _ (fun _ hu => hu)))⟩⟩⟩⟩
  · exact br_f (by decide) ⟨hin, br_f (by decide) ⟨hin, br_f (by decide) ⟨hin, br_f (by decide) ⟨hin, jy_typed1 (by decide) (by decide) (br_f (by decide) (kc (by decide) hx hy hz _ (fun _ hu => hu)))⟩⟩⟩⟩
  · rw [jt_eS_8, jt_eP_8, jt_eL_8, jt_eN_8, jt_eK_8] at k
    have k180 : post (sz, nI q, nI i + 1, ct, st, ops, xs, ys, zs, Q, N, K) → wY_execute_180 post (nI i) x sz (nI q) (nI i + 1) ct st ops xs ys zs Q N K := by
      intro hh
      unfold wY_execute_180
      rw [eo']
      exact ⟨hin, br_f (by decide) ⟨hin, br_f (by decide) hh⟩⟩
    refine br_f (by decide) ⟨hin, br_f (by decide) ⟨hin, br_f (by decide) ⟨hin, br_f (by decide) ⟨hin, jy_typed0 (by decide) (br_t rfl ⟨hin, ?_⟩)⟩⟩⟩⟩
    rw [jt_Q_at hQ hx]
    refine br_t rfl ⟨jt_vr_in hx, ?_⟩
    by_cases c : jt_so S x = 1
    · rw [if_neg (fun g => g.1 c)] at k
      exact br_t c (k180 (k _ hQ))
    · refine br_f c ⟨jt_vr_in hx, ?_⟩
      by_cases d : N x.toNatClampNeg = 0
      · rw [if_pos ⟨c, d⟩] at k
        exact br_t d (k _ hQ)
      · rw [if_neg (fun g => d g.2)] at k
        exact br_f d (k180 (k _ hQ))
  · rw [jt_eS_9, jt_eP_9, jt_eL_9, jt_eN_9, jt_eK_9] at k
    refine br_f (by decide) ⟨hin, br_f (by decide) ⟨hin, br_f (by decide) ⟨hin, br_f (by decide) ⟨hin, jy_typed0 (by decide) (br_t rfl ⟨hin, ?_⟩)⟩⟩⟩⟩
    refine br_f (by decide) ?_
    unfold wY_execute_180
    rw [eo']
    exact ⟨hin, br_t rfl (k _ hQ)⟩
  · rw [jt_eS_10, jt_eP_10, jt_eL_10, jt_eN_10, jt_eK_10, jt_pI_lt hq] at k
    have kk := k _ hQ
    unfold jt_pK at kk
    refine br_f (by decide) ⟨hin, br_f (by decide) ⟨hin, br_f (by decide) ⟨hin, br_f (by decide) ⟨hin, jy_typed0 (by decide) (br_t rfl ⟨hin, ?_⟩)⟩⟩⟩⟩
    refine br_f (by decide) ?_
    unfold wY_execute_180
    rw [eo', jt_Q_at hQ hx]
    refine ⟨hin, br_f (by decide) ⟨hin, br_t rfl ?_⟩⟩
    by_cases c : (24 : Int32) ≤ nI q
    · rw [if_neg (Int32.not_lt.mpr c)] at kk
      exact br_t c (nm_r (nI_1 q) kk)
    · rw [if_pos (Int32.not_le.mp c)] at kk
      have q24 : q < 24 := by
        have := mt (nI_leI (a := 24) (b := q) (by omega) (by omega)).mpr c
        omega
      exact br_f c ⟨jt_vr_in hx, jt_vr_in hx, vp_in_nI q24 (by omega), nm_e (nm_r (nI_1 q) kk)⟩
/-- the reference's step is the pure step -/
theorem jy_step {post : SY → Prop} {q : Nat} (hP : jt_Pok (ops, xs, ys, zs, sz)) (ok : jt_ok (S, (N, K, nI q), pl, ct)) (hQ : jt_Q Q S) (hq : q + 1 < 2 ^ 31)
    (kr : ∀ s, ¬ s = 0 → jt_sp (ops, xs, ys, zs, sz) (S, (N, K, nI q), pl, ct) = .inr s → post (sz, nI q, pl, ct, s, ops, xs, ys, zs, Q, N, K))
    (kl : ∀ (S' : Int32) (q' : Nat) (pl' ct' : Int32) (N' : Nat → Int32) (K' : Nat → Int64) (Q' : Nat → Int32), jt_sp (ops, xs, ys, zs, sz) (S, (N, K, nI q), pl, ct) = .inl (S', (N', K', nI q'), pl', ct') → jt_Q Q' S' → q' ≤ q + 1 → post (sz, nI q', pl', ct', 0, ops, xs, ys, zs, Q', N', K')) : wpY_step post (sz, nI q, pl, ct, 0, ops, xs, ys, zs, Q, N, K) := by
  unfold wpY_step
  refine br_t rfl ?_
  by_cases h : pl < sz
  · have h' : ¬ sz ≤ pl := Int32.not_le.mpr h
    obtain ⟨i, hi, e, ei, hio⟩ := jt_at hP ok.2.1 h'
    refine br_t h ?_
    subst e
    refine jy_faults hi rfl rfl rfl hio hQ (fun f => ?_) (fun f => ?_)
    · refine br_f (by decide) (kr 2 (by decide) (jt_sp_fault h' ?_))
      rw [ei]
      exact f
    · refine br_t rfl (jy_execute hi rfl rfl rfl rfl hio f ok.1 hQ hq (fun Q' hQ' => nm_e ?_))
      obtain ⟨q', hq', eq'⟩ := jt_eP_le (op := ops i) hq
      show post (sz, jt_eP (ops i) (nI q), jt_eL (ops i) (xs i) (ys i) (nI i) S N, ct + 1, 0, ops, xs, ys, zs, Q', jt_eN (ops i) (xs i) (ys i) (zs i) S N, jt_eK (ops i) (xs i) S (nI q) N K)
      rw [eq']
      refine kl _ q' _ _ _ _ Q' ?_ hQ' hq'
      rw [jt_sp_go h' (by rw [ei]; exact f), ei, ← eq']
      rfl
  · exact br_f h (kr 1 (by decide) (jt_sp_end (Int32.not_lt.mp h)))
theorem jy_stay {post : Int32 → SY → Prop} {T : Nat} (hT : T ≤ 300) (hs : ¬ st = 0) (h : post st (sz, pr, pl, ct, st, ops, xs, ys, zs, Q, N, K)) : ∀ (d n c : Nat), c + d = T → d < n → wY_run_25 post (nI T) n (nI c) sz pr pl ct st ops xs ys zs Q N K := by
  intro d
  induction d with
  | zero =>
    intro n c hc hn
    obtain ⟨n, rfl⟩ : ∃ n', n = n' + 1 := ⟨n - 1, by omega⟩
    rw [wY_run_25]
    exact br_t (nI_le (by omega) (by omega)) h
  | succ d ih =>
    intro n c hc hn
    obtain ⟨n, rfl⟩ : ∃ n', n = n' + 1 := ⟨n - 1, by omega⟩
    rw [wY_run_25]
    refine br_f (nI_ge (by omega) (by omega)) ?_
    unfold wpY_step
    exact br_f hs (nm_r (nI_1 c) (ih n (c + 1) (by omega) (by omega)))
/-- the reference's loop is the pure run -/
theorem jy_loop {post : Int32 → SY → Prop} {T : Nat} (hT : T ≤ 300) (hP : jt_Pok (ops, xs, ys, zs, sz)) : ∀ (d n c q : Nat) (S pl ct : Int32) (N : Nat → Int32) (K : Nat → Int64) (Q : Nat → Int32), c + d = T → d < n → jt_ok (S, (N, K, nI q), pl, ct) → jt_Q Q S → q + d < 2 ^ 31 →
    (∀ (S' : Int32) (q' : Nat) (pl' ct' st' : Int32) (N' : Nat → Int32) (K' : Nat → Int64) (Q' : Nat → Int32), jt_rs (ops, xs, ys, zs, sz) d (S, (N, K, nI q), pl, ct) = ((S', (N', K', nI q'), pl', ct'), st') → jt_Q Q' S' → q' ≤ q + d → post st' (sz, nI q', pl', ct', st', ops, xs, ys, zs, Q', N', K')) →
    wY_run_25 post (nI T) n (nI c) sz (nI q) pl ct 0 ops xs ys zs Q N K := by
  intro d
  induction d with
  | zero =>
    intro n c q S pl ct N K Q hc hn ok hQ hq k
    obtain ⟨n, rfl⟩ : ∃ n', n = n' + 1 := ⟨n - 1, by omega⟩
    rw [wY_run_25]
    exact br_t (nI_le (by omega) (by omega)) (k S q pl ct 0 N K Q rfl hQ (by omega))
  | succ d ih =>
    intro n c q S pl ct N K Q hc hn ok hQ hq k
    obtain ⟨n, rfl⟩ : ∃ n', n = n' + 1 := ⟨n - 1, by omega⟩
    rw [wY_run_25]
    refine br_f (nI_ge (by omega) (by omega)) ?_
    refine jy_step hP ok hQ (by omega) ?_ ?_
    · intro s s0 hs
      refine nm_r (nI_1 c) ?_
      exact jy_stay hT s0 (k S q pl ct s N K Q (jt_rs_r d hs) hQ (by omega)) d n (c + 1) (by omega) (by omega)
    · intro S' q' pl' ct' N' K' Q' hs hQ' hq'
      refine nm_r (nI_1 c) ?_
      refine ih n (c + 1) q' S' pl' ct' N' K' Q' (by omega) (by omega) (jt_sp_ok hP ok hs) hQ' (by omega) ?_
      intro S2 q2 pl2 ct2 st2 N2 K2 Q2 hr hQ2 hq2
      refine k S2 q2 pl2 ct2 st2 N2 K2 Q2 ?_ hQ2 (by omega)
      rw [jt_rs_l d hs]
      exact hr
end
end
section
section
variable {th sz S pr pl ct st an rs rk : Int32} {ops xs ys zs N Q : Nat → Int32} {K : Nat → Int64} {ht ts tc se sd kn cv ca cb cs co : Nat → Int32}
theorem jx_isVar {post : Int32 → Prop} {v : Int32} (k1 : jt_vr v → post 1) (k0 : ¬ jt_vr v → post 0) : wpX_isVariable post v := by
  unfold wpX_isVariable
  refine br_c (fun h => k0 ?_) (fun h => br_c (fun h6 => k0 ?_) (fun h6 => k1 ?_))
  · rintro ⟨a, ha, rfl⟩
    exact nI_pos (by omega) h
  · rintro ⟨a, ha, rfl⟩
    exact nI_ge (b := 6) ha (by omega) h6
  · obtain ⟨j, hj, rfl⟩ := nI_of h
    have := mt (nI_leI (a := 6) (b := j) (by omega) hj).mpr h6
    exact ⟨j, by omega, rfl⟩
theorem jx_isTg {post : Int32 → Prop} {v : Int32} (k1 : jt_tg v → post 1) (k0 : ¬ jt_tg v → post 0) : wpX_isTarget post v := by
  unfold wpX_isTarget
  refine br_c (fun h => k0 ?_) (fun h => br_c (fun h6 => k0 ?_) (fun h6 => k1 ?_))
  · rintro ⟨a, ha, rfl⟩
    exact nI_pos (by omega) h
  · rintro ⟨a, ha, rfl⟩
    exact nI_ge (b := 24) ha (by omega) h6
  · obtain ⟨j, hj, rfl⟩ := nI_of h
    have := mt (nI_leI (a := 24) (b := j) (by omega) hj).mpr h6
    exact ⟨j, by omega, rfl⟩
theorem jy_isVar {post : Int32 → Prop} {v : Int32} (k1 : jt_vr v → post 1) (k0 : ¬ jt_vr v → post 0) : wpY_isVariable post (sz, pr, pl, ct, st, ops, xs, ys, zs, Q, N, K) v := by
  unfold wpY_isVariable
  refine br_c (fun h => k0 ?_) (fun h => br_c (fun h6 => k0 ?_) (fun h6 => k1 ?_))
  · rintro ⟨a, ha, rfl⟩
    exact nI_pos (by omega) h
  · rintro ⟨a, ha, rfl⟩
    exact nI_nlt (a := 5) (by omega) (by omega) h6
  · obtain ⟨j, hj, rfl⟩ := nI_of h
    have := mt (nI_ltI (a := 5) (b := j) (by omega) hj).mpr h6
    exact ⟨j, by omega, rfl⟩
theorem jy_isPl {post : Int32 → Prop} {v : Int32} (k1 : jt_tg v → post 1) (k0 : ¬ jt_tg v → post 0) : wpY_isPlace post (sz, pr, pl, ct, st, ops, xs, ys, zs, Q, N, K) v := by
  unfold wpY_isPlace
  refine br_c (fun h => k0 ?_) (fun h => br_c (fun h6 => k0 ?_) (fun h6 => k1 ?_))
  · rintro ⟨a, ha, rfl⟩
    exact nI_pos (by omega) h
  · rintro ⟨a, ha, rfl⟩
    exact nI_nlt (a := 23) (by omega) (by omega) h6
  · obtain ⟨j, hj, rfl⟩ := nI_of h
    have := mt (nI_ltI (a := 23) (b := j) (by omega) hj).mpr h6
    exact ⟨j, by omega, rfl⟩
/-- an op with three operands -/
def jt_th (op : Int32) : Prop := ¬ op < 4 ∧ ¬ 7 < op
theorem jx_three {post : Int32 → Prop} {p : Int32} (k1 : jt_th p → post 1) (k0 : ¬ jt_th p → post 0) : wpX_hasThreeOperands post p := by
  unfold wpX_hasThreeOperands
  exact br_c (fun h => k0 (fun t => t.1 h)) (fun h => br_c (fun h7 => k0 (fun t => t.2 h7)) (fun h7 => k1 ⟨h, h7⟩))
theorem jy_typed {post : Int32 → Prop} {p : Int32} (k1 : jt_th p → post 1) (k0 : ¬ jt_th p → post 0) : wpY_typed post (sz, pr, pl, ct, st, ops, xs, ys, zs, Q, N, K) p := by
  unfold wpY_typed
  exact br_c (fun h => k0 (fun t => t.1 h)) (fun h => br_c (fun h7 => k0 (fun t => t.2 h7)) (fun h7 => k1 ⟨h, h7⟩))
theorem jt_iok_r {op x y z : Int32} (h : jt_iok op x y z) : ¬ op < 0 ∧ op ≤ 10 := by
  rcases h with ⟨rfl, _⟩ | ⟨rfl, _⟩ | ⟨rfl, _⟩ | ⟨rfl, _⟩ | ⟨rfl, _⟩ | ⟨rfl, _⟩ | ⟨rfl, _⟩ | ⟨rfl, _⟩ | ⟨rfl, _⟩ | ⟨rfl, _⟩ | ⟨rfl, _⟩ <;> decide
theorem jt_op11 {op : Int32} (h0 : ¬ op < 0) (h10 : op ≤ 10) : op = 0 ∨ op = 1 ∨ op = 2 ∨ op = 3 ∨ op = 4 ∨ op = 5 ∨ op = 6 ∨ op = 7 ∨ op = 8 ∨ op = 9 ∨ op = 10 := by
  obtain ⟨j, hj, rfl⟩ := nI_of2 (n := 10) (by decide) h0 h10
  have : j = 0 ∨ j = 1 ∨ j = 2 ∨ j = 3 ∨ j = 4 ∨ j = 5 ∨ j = 6 ∨ j = 7 ∨ j = 8 ∨ j = 9 ∨ j = 10 := by omega
  rcases this with rfl | rfl | rfl | rfl | rfl | rfl | rfl | rfl | rfl | rfl | rfl <;> decide
theorem jt_iok_0 {x y z : Int32} : jt_iok 0 x y z ↔ (jt_vr x) := by
  unfold jt_iok
  simp
theorem jt_iok_1 {x y z : Int32} : jt_iok 1 x y z ↔ (jt_vr x) := by
  unfold jt_iok
  simp
theorem jt_iok_2 {x y z : Int32} : jt_iok 2 x y z ↔ (jt_vr x) := by
  unfold jt_iok
  simp
theorem jt_iok_3 {x y z : Int32} : jt_iok 3 x y z ↔ (jt_vr x ∧ jt_vr y) := by
  unfold jt_iok
  simp
theorem jt_iok_4 {x y z : Int32} : jt_iok 4 x y z ↔ (jt_vr x ∧ jt_vr y ∧ jt_vr z) := by
  unfold jt_iok
  simp
theorem jt_iok_5 {x y z : Int32} : jt_iok 5 x y z ↔ (jt_vr x ∧ jt_vr y ∧ jt_vr z) := by
  unfold jt_iok
  simp
theorem jt_iok_6 {x y z : Int32} : jt_iok 6 x y z ↔ (jt_vr x ∧ jt_vr y ∧ jt_vr z) := by
  unfold jt_iok
  simp
theorem jt_iok_7 {x y z : Int32} : jt_iok 7 x y z ↔ (jt_vr x ∧ jt_vr y ∧ jt_vr z) := by
  unfold jt_iok
  simp
theorem jt_iok_8 {x y z : Int32} : jt_iok 8 x y z ↔ (jt_vr x ∧ jt_tg y) := by
  unfold jt_iok
  simp
theorem jt_iok_9 {x y z : Int32} : jt_iok 9 x y z ↔ (jt_tg x) := by
  unfold jt_iok
  simp
theorem jt_iok_10 {x y z : Int32} : jt_iok 10 x y z ↔ (jt_vr x) := by
  unfold jt_iok
  simp
theorem jx_isIns {post : Int32 → Prop} {op x y z : Int32} (k1 : jt_iok op x y z → post 1) (k0 : ¬ jt_iok op x y z → post 0) : wpX_isInstruction post op x y z := by
  unfold wpX_isInstruction
  by_cases h0 : op < 0
  · exact br_t h0 (k0 (fun h => (jt_iok_r h).1 h0))
  · refine br_f h0 ?_
    by_cases h10 : op ≤ 10
    · refine br_t h10 ?_
      rcases jt_op11 h0 h10 with rfl | rfl | rfl | rfl | rfl | rfl | rfl | rfl | rfl | rfl | rfl
      · exact br_f (by decide) (jx_isVar (fun hx => br_f (by decide) (br_f (by decide) (br_f (by decide) (br_t (by decide) (br_t rfl (k1 (jt_iok_0.mpr hx))))))) (fun hx => br_t rfl (k0 (fun g => hx (jt_iok_0.mp g)))))
      · exact br_f (by decide) (jx_isVar (fun hx => br_f (by decide) (br_f (by decide) (br_f (by decide) (br_t (by decide) (br_t rfl (k1 (jt_iok_1.mpr hx))))))) (fun hx => br_t rfl (k0 (fun g => hx (jt_iok_1.mp g)))))
      · exact br_f (by decide) (jx_isVar (fun hx => br_f (by decide) (br_f (by decide) (br_f (by decide) (br_t (by decide) (br_t rfl (k1 (jt_iok_2.mpr hx))))))) (fun hx => br_t rfl (k0 (fun g => hx (jt_iok_2.mp g)))))
      · exact br_f (by decide) (jx_isVar (fun hx => br_f (by decide) (br_f (by decide) (br_t rfl (jx_isVar (fun hy => ⟨rfl, k1 (jt_iok_3.mpr ⟨hx, hy⟩)⟩) (fun hy => ⟨rfl, k0 (fun g => hy (jt_iok_3.mp g).2)⟩))))) (fun hx => br_t rfl (k0 (fun g => hx (jt_iok_3.mp g).1))))
      · exact br_f (by decide) (jx_isVar (fun hx => br_f (by decide) (br_f (by decide) (br_f (by decide) (br_f (by decide) (br_f (by decide) (br_f (by decide) (jx_isVar (fun hy => br_f (by decide) (jx_isVar (fun hz => br_f (by decide) (k1 (jt_iok_4.mpr ⟨hx, hy, hz⟩))) (fun hz => br_t rfl (k0 (fun g => hz (jt_iok_4.mp g).2.2))))) (fun hy => br_t rfl (k0 (fun g => hy (jt_iok_4.mp g).2.1)))))))))) (fun hx => br_t rfl (k0 (fun g => hx (jt_iok_4.mp g).1))))
      · exact br_f (by decide) (jx_isVar (fun hx => br_f (by decide) (br_f (by decide) (br_f (by decide) (br_f (by decide) (br_f (by decide) (br_f (by decide) (jx_isVar (fun hy => br_f (by decide) (jx_isVar (fun hz => br_f (by decide) (k1 (jt_iok_5.mpr ⟨hx, hy, hz⟩))) (fun hz => br_t rfl (k0 (fun g => hz (jt_iok_5.mp g).2.2))))) (fun hy => br_t rfl (k0 (fun g => hy (jt_iok_5.mp g).2.1)))))))))) (fun hx => br_t rfl (k0 (fun g => hx (jt_iok_5.mp g).1))))
      · exact br_f (by decide) (jx_isVar (fun hx => br_f (by decide) (br_f (by decide) (br_f (by decide) (br_f (by decide) (br_f (by decide) (br_f (by decide) (jx_isVar (fun hy => br_f (by decide) (jx_isVar (fun hz => br_f (by decide) (k1 (jt_iok_6.mpr ⟨hx, hy, hz⟩))) (fun hz => br_t rfl (k0 (fun g => hz (jt_iok_6.mp g).2.2))))) (fun hy => br_t rfl (k0 (fun g => hy (jt_iok_6.mp g).2.1)))))))))) (fun hx => br_t rfl (k0 (fun g => hx (jt_iok_6.mp g).1))))
      · exact br_f (by decide) (jx_isVar (fun hx => br_f (by decide) (br_f (by decide) (br_f (by decide) (br_f (by decide) (br_f (by decide) (br_f (by decide) (jx_isVar (fun hy => br_f (by decide) (jx_isVar (fun hz => br_f (by decide) (k1 (jt_iok_7.mpr ⟨hx, hy, hz⟩))) (fun hz => br_t rfl (k0 (fun g => hz (jt_iok_7.mp g).2.2))))) (fun hy => br_t rfl (k0 (fun g => hy (jt_iok_7.mp g).2.1)))))))))) (fun hx => br_t rfl (k0 (fun g => hx (jt_iok_7.mp g).1))))
      · exact br_f (by decide) (jx_isVar (fun hx => br_f (by decide) (br_t rfl (jx_isTg (fun hy => ⟨rfl, k1 (jt_iok_8.mpr ⟨hx, hy⟩)⟩) (fun hy => ⟨rfl, k0 (fun g => hy (jt_iok_8.mp g).2)⟩)))) (fun hx => br_t rfl (k0 (fun g => hx (jt_iok_8.mp g).1))))
      · exact br_t rfl (jx_isTg (fun h => ⟨rfl, k1 (jt_iok_9.mpr h)⟩) (fun h => ⟨rfl, k0 (fun g => h (jt_iok_9.mp g))⟩))
      · exact br_f (by decide) (jx_isVar (fun hx => br_f (by decide) (br_f (by decide) (br_f (by decide) (br_f (by decide) (br_t (by decide) (br_t rfl (k1 (jt_iok_10.mpr hx)))))))) (fun hx => br_t rfl (k0 (fun g => hx (jt_iok_10.mp g)))))
    · exact br_f h10 (k0 (fun h => h10 (jt_iok_r h).2))
theorem jy_fits {post : Int32 → Prop} {op x y z : Int32} (k1 : jt_iok op x y z → post 1) (k0 : ¬ jt_iok op x y z → post 0) : wpY_fits post (sz, pr, pl, ct, st, ops, xs, ys, zs, Q, N, K) op x y z := by
  unfold wpY_fits
  by_cases h0 : op < 0
  · exact br_t h0 (k0 (fun h => (jt_iok_r h).1 h0))
  · refine br_f h0 ?_
    by_cases h10 : op ≤ 10
    · refine br_t h10 ?_
      rcases jt_op11 h0 h10 with rfl | rfl | rfl | rfl | rfl | rfl | rfl | rfl | rfl | rfl | rfl
      · exact br_f (by decide) (jy_isVar (fun hx => br_f (by decide) (br_f (by decide) (br_f (by decide) (jy_typed0 (by decide) (br_t rfl (jy_typed0 (by decide) (br_t rfl (k1 (jt_iok_0.mpr hx))))))))) (fun hx => br_t rfl (k0 (fun g => hx (jt_iok_0.mp g)))))
      · exact br_f (by decide) (jy_isVar (fun hx => br_f (by decide) (br_f (by decide) (br_f (by decide) (jy_typed0 (by decide) (br_t rfl (jy_typed0 (by decide) (br_t rfl (k1 (jt_iok_1.mpr hx))))))))) (fun hx => br_t rfl (k0 (fun g => hx (jt_iok_1.mp g)))))
      · exact br_f (by decide) (jy_isVar (fun hx => br_f (by decide) (br_f (by decide) (br_f (by decide) (jy_typed0 (by decide) (br_t rfl (jy_typed0 (by decide) (br_t rfl (k1 (jt_iok_2.mpr hx))))))))) (fun hx => br_t rfl (k0 (fun g => hx (jt_iok_2.mp g)))))
      · exact br_f (by decide) (jy_isVar (fun hx => br_f (by decide) (br_f (by decide) (br_t rfl (jy_isVar (fun hy => br_f (by decide) (jy_typed0 (by decide) (br_t rfl (k1 (jt_iok_3.mpr ⟨hx, hy⟩))))) (fun hy => br_t rfl (k0 (fun g => hy (jt_iok_3.mp g).2))))))) (fun hx => br_t rfl (k0 (fun g => hx (jt_iok_3.mp g).1))))
      · exact br_f (by decide) (jy_isVar (fun hx => br_f (by decide) (br_f (by decide) (br_f (by decide) (jy_typed1 (by decide) (by decide) (br_f (by decide) (jy_isVar (fun hy => br_f (by decide) (jy_typed1 (by decide) (by decide) (br_f (by decide) (jy_isVar (fun hz => br_f (by decide) (k1 (jt_iok_4.mpr ⟨hx, hy, hz⟩))) (fun hz => br_t rfl (k0 (fun g => hz (jt_iok_4.mp g).2.2))))))) (fun hy => br_t rfl (k0 (fun g => hy (jt_iok_4.mp g).2.1))))))))) (fun hx => br_t rfl (k0 (fun g => hx (jt_iok_4.mp g).1))))
      · exact br_f (by decide) (jy_isVar (fun hx => br_f (by decide) (br_f (by decide) (br_f (by decide) (jy_typed1 (by decide) (by decide) (br_f (by decide) (jy_isVar (fun hy => br_f (by decide) (jy_typed1 (by decide) (by decide) (br_f (by decide) (jy_isVar (fun hz => br_f (by decide) (k1 (jt_iok_5.mpr ⟨hx, hy, hz⟩))) (fun hz => br_t rfl (k0 (fun g => hz (jt_iok_5.mp g).2.2))))))) (fun hy => br_t rfl (k0 (fun g => hy (jt_iok_5.mp g).2.1))))))))) (fun hx => br_t rfl (k0 (fun g => hx (jt_iok_5.mp g).1))))
      · exact br_f (by decide) (jy_isVar (fun hx => br_f (by decide) (br_f (by decide) (br_f (by decide) (jy_typed1 (by decide) (by decide) (br_f (by decide) (jy_isVar (fun hy => br_f (by decide) (jy_typed1 (by decide) (by decide) (br_f (by decide) (jy_isVar (fun hz => br_f (by decide) (k1 (jt_iok_6.mpr ⟨hx, hy, hz⟩))) (fun hz => br_t rfl (k0 (fun g => hz (jt_iok_6.mp g).2.2))))))) (fun hy => br_t rfl (k0 (fun g => hy (jt_iok_6.mp g).2.1))))))))) (fun hx => br_t rfl (k0 (fun g => hx (jt_iok_6.mp g).1))))
      · exact br_f (by decide) (jy_isVar (fun hx => br_f (by decide) (br_f (by decide) (br_f (by decide) (jy_typed1 (by decide) (by decide) (br_f (by decide) (jy_isVar (fun hy => br_f (by decide) (jy_typed1 (by decide) (by decide) (br_f (by decide) (jy_isVar (fun hz => br_f (by decide) (k1 (jt_iok_7.mpr ⟨hx, hy, hz⟩))) (fun hz => br_t rfl (k0 (fun g => hz (jt_iok_7.mp g).2.2))))))) (fun hy => br_t rfl (k0 (fun g => hy (jt_iok_7.mp g).2.1))))))))) (fun hx => br_t rfl (k0 (fun g => hx (jt_iok_7.mp g).1))))
      · exact br_f (by decide) (jy_isVar (fun hx => br_f (by decide) (br_t rfl (jy_isPl (fun hy => ⟨rfl, k1 (jt_iok_8.mpr ⟨hx, hy⟩)⟩) (fun hy => ⟨rfl, k0 (fun g => hy (jt_iok_8.mp g).2)⟩)))) (fun hx => br_t rfl (k0 (fun g => hx (jt_iok_8.mp g).1))))
      · exact br_t rfl (jy_isPl (fun h => ⟨rfl, k1 (jt_iok_9.mpr h)⟩) (fun h => ⟨rfl, k0 (fun g => h (jt_iok_9.mp g))⟩))
      · exact br_f (by decide) (jy_isVar (fun hx => br_f (by decide) (br_f (by decide) (br_f (by decide) (jy_typed0 (by decide) (br_t rfl (jy_typed0 (by decide) (br_t rfl (k1 (jt_iok_10.mpr hx))))))))) (fun hx => br_t rfl (k0 (fun g => hx (jt_iok_10.mp g)))))
    · exact br_f h10 (k0 (fun h => h10 (jt_iok_r h).2))
theorem jx_write {post : SX → Prop} {i : Nat} {op x y z : Int32} (hi : i < 24) (h : post (th, sz, S, pr, pl, ct, st, an, rs, rk, upd ops i op, upd xs i x, upd ys i y, upd zs i z, N, K, ht, ts, tc, se, sd, kn, cv, ca, cb, cs, co)) : wpX_write post (th, sz, S, pr, pl, ct, st, an, rs, rk, ops, xs, ys, zs, N, K, ht, ts, tc, se, sd, kn, cv, ca, cb, cs, co) (nI i) op x y z := by
  have hin : vp_in (nI i) 24 := vp_in_nI hi (by omega)
  have e : (nI i).toNatClampNeg = i := nI_clamp (by omega)
  unfold wpX_write
  refine ⟨hin, ?_⟩
  rw [e]
  exact nm_e ⟨hin, nm_e ⟨hin, nm_e ⟨hin, nm_e h⟩⟩⟩
theorem jy_write {post : SY → Prop} {i : Nat} {op x y z : Int32} (hi : i < 24) (h : post (sz, pr, pl, ct, st, upd ops i op, upd xs i x, upd ys i y, upd zs i z, Q, N, K)) : wpY_write post (sz, pr, pl, ct, st, ops, xs, ys, zs, Q, N, K) (nI i) op x y z := by
  have hin : vp_in (nI i) 24 := vp_in_nI hi (by omega)
  have e : (nI i).toNatClampNeg = i := nI_clamp (by omega)
  unfold wpY_write
  refine ⟨hin, ?_⟩
  rw [e]
  exact nm_e ⟨hin, nm_e ⟨hin, nm_e ⟨hin, nm_e h⟩⟩⟩
theorem jx_forgetL {post : SX → Prop} : ∀ (d i n : Nat) (ht ts : Nat → Int32), i + d = 24 → d < n → (∀ t, t < i → ts t = 0) → (∀ ht' ts' : Nat → Int32, (∀ t, t < 24 → ts' t = 0) → post (th, sz, S, pr, pl, ct, st, an, rs, rk, ops, xs, ys, zs, N, K, ht', ts', tc, se, sd, kn, cv, ca, cb, cs, co)) → wX_forgetTraces_2 post th sz S pr pl ct st an rs rk n (nI i) ops xs ys zs N K ht ts tc se sd kn cv ca cb cs co := by
  intro d
  induction d with
  | zero =>
    intro i n ht ts hd hn hz k
    obtain ⟨n, rfl⟩ : ∃ n', n = n' + 1 := ⟨n - 1, by omega⟩
    rw [wX_forgetTraces_2]
    exact br_t (nI_le (a := 24) (by omega) (by omega)) (k _ _ (fun t h => hz t (by omega)))
  | succ d ih =>
    intro i n ht ts hd hn hz k
    obtain ⟨n, rfl⟩ : ∃ n', n = n' + 1 := ⟨n - 1, by omega⟩
    rw [wX_forgetTraces_2]
    have hin : vp_in (nI i) 24 := vp_in_nI (by omega) (by omega)
    have e : (nI i).toNatClampNeg = i := nI_clamp (by omega)
    refine br_f (nI_ge (b := 24) (by omega) (by omega)) ⟨hin, nm_e ⟨hin, nm_e (nm_r (nI_1 i) ?_)⟩⟩
    refine ih (i + 1) n _ _ (by omega) (by omega) ?_ k
    intro t h
    rw [e]
    by_cases c : t = i
    · rw [c]; exact pk_us
    · rw [pk_un c]; exact hz t (by omega)
theorem jx_forget {post : SX → Prop} (k : ∀ ht' ts' : Nat → Int32, (∀ t, t < 24 → ts' t = 0) → post (th, sz, S, pr, pl, ct, st, an, rs, rk, ops, xs, ys, zs, N, K, ht', ts', tc, se, sd, kn, cv, ca, cb, cs, co)) : wpX_forgetTraces post (th, sz, S, pr, pl, ct, st, an, rs, rk, ops, xs, ys, zs, N, K, ht, ts, tc, se, sd, kn, cv, ca, cb, cs, co) := by
  unfold wpX_forgetTraces
  exact ⟨25, jx_forgetL 24 0 25 ht ts (by omega) (by omega) (fun t h => absurd h (by omega)) k⟩
/-- the first i cells become 0 -/
def jt_zr (f : Nat → Int32) (i : Nat) : Nat → Int32 := fun j => if j < i then 0 else f j
theorem jt_zr_0 (f : Nat → Int32) : jt_zr f 0 = f := by
  funext j
  exact if_neg (by omega)
theorem jt_zr_s (f : Nat → Int32) (i : Nat) : upd (jt_zr f i) i 0 = jt_zr f (i + 1) := by
  funext j
  unfold upd jt_zr
  by_cases c : j = i
  · rw [if_pos c, if_pos (by omega)]
  · rw [if_neg c]
    by_cases c2 : j < i
    · rw [if_pos c2, if_pos (by omega)]
    · rw [if_neg c2, if_neg (by omega)]
theorem jt_zr_at (f : Nat → Int32) {i j : Nat} (h : j < i) : jt_zr f i j = 0 := if_pos h
theorem jx_restartL {post : SX → Prop} (k : post (th, sz, 0, 0, 0, 0, 0, an, rs, rk, ops, xs, ys, zs, jt_zr N 6, K, ht, ts, tc, se, sd, kn, cv, ca, cb, cs, co)) : ∀ (d i n : Nat), i + d = 6 → d < n → wX_restart_2 post th sz S pr pl ct st an rs rk n (nI i) ops xs ys zs (jt_zr N i) K ht ts tc se sd kn cv ca cb cs co := by
  intro d
  induction d with
  | zero =>
    intro i n hd hn
    obtain ⟨n, rfl⟩ : ∃ n', n = n' + 1 := ⟨n - 1, by omega⟩
    rw [wX_restart_2]
    have ei : i = 6 := by omega
    subst ei
    exact br_t (nI_le (a := 6) (by omega) (by omega)) k
  | succ d ih =>
    intro i n hd hn
    obtain ⟨n, rfl⟩ : ∃ n', n = n' + 1 := ⟨n - 1, by omega⟩
    rw [wX_restart_2]
    have hin : vp_in (nI i) 6 := vp_in_nI (by omega) (by omega)
    have e : (nI i).toNatClampNeg = i := nI_clamp (by omega)
    refine br_f (nI_ge (b := 6) (by omega) (by omega)) ⟨hin, nm_r (e' := jt_zr N (i + 1)) (by rw [e, jt_zr_s]) (nm_r (nI_1 i) ?_)⟩
    exact ih (i + 1) n (by omega) (by omega)
theorem jx_restart {post : SX → Prop} (k : post (th, sz, 0, 0, 0, 0, 0, an, rs, rk, ops, xs, ys, zs, jt_zr N 6, K, ht, ts, tc, se, sd, kn, cv, ca, cb, cs, co)) : wpX_restart post (th, sz, S, pr, pl, ct, st, an, rs, rk, ops, xs, ys, zs, N, K, ht, ts, tc, se, sd, kn, cv, ca, cb, cs, co) := by
  unfold wpX_restart
  have := jx_restartL (th := th) (sz := sz) (S := S) (pr := pr) (pl := pl) (ct := ct) (st := st) (an := an) (rs := rs) (rk := rk) (ops := ops) (xs := xs) (ys := ys) (zs := zs) (N := N) (K := K) (ht := ht) (ts := ts) (tc := tc) (se := se) (sd := sd) (kn := kn) (cv := cv) (ca := ca) (cb := cb) (cs := cs) (co := co) k 6 0 7 (by omega) (by omega)
  rw [jt_zr_0] at this
  exact ⟨7, this⟩
theorem jy_restartL {post : SY → Prop} (k : post (sz, 0, 0, 0, 0, ops, xs, ys, zs, jt_zr Q 6, jt_zr N 6, K)) : ∀ (d i n : Nat), i + d = 6 → d < n → wY_restart_2 post n (nI i) sz pr pl ct st ops xs ys zs (jt_zr Q i) (jt_zr N i) K := by
  intro d
  induction d with
  | zero =>
    intro i n hd hn
    obtain ⟨n, rfl⟩ : ∃ n', n = n' + 1 := ⟨n - 1, by omega⟩
    rw [wY_restart_2]
    have ei : i = 6 := by omega
    subst ei
    exact br_t (nI_le (a := 6) (by omega) (by omega)) k
  | succ d ih =>
    intro i n hd hn
    obtain ⟨n, rfl⟩ : ∃ n', n = n' + 1 := ⟨n - 1, by omega⟩
    rw [wY_restart_2]
    have e : (nI i).toNatClampNeg = i := nI_clamp (by omega)
    refine br_f (nI_ge (b := 6) (by omega) (by omega)) (jy_give ⟨i, by omega, rfl⟩ ?_)
    rw [e, jt_zr_s, jt_zr_s]
    exact nm_r (nI_1 i) (ih (i + 1) n (by omega) (by omega))
theorem jy_restart {post : SY → Prop} (k : post (sz, 0, 0, 0, 0, ops, xs, ys, zs, jt_zr Q 6, jt_zr N 6, K)) : wpY_restart post (sz, pr, pl, ct, st, ops, xs, ys, zs, Q, N, K) := by
  unfold wpY_restart
  have := jy_restartL (sz := sz) (pr := pr) (pl := pl) (ct := ct) (st := st) (ops := ops) (xs := xs) (ys := ys) (zs := zs) (N := N) (Q := Q) (K := K) k 6 0 7 (by omega) (by omega)
  rw [jt_zr_0, jt_zr_0] at this
  exact ⟨7, this⟩
end
end
section
def jt_R (k : Nat) (P : jt_P) (C : jt_C) (ts tc se sd Q : Nat → Int32) (S pl pr : Int32) (N : Nat → Int32) : Prop :=
  jt_Pok P ∧ jt_wf S N ∧ jt_pl pl ∧ (∃ q, q ≤ 60 * k ∧ pr = nI q) ∧ jt_Q Q S ∧ jt_Tok P C ts tc se sd
/-- the same program, machine and output; the sorts packed in X; every trace of X sound; printed at most 60 k -/
def i_Rel (k : Nat) (u : SX) (v : SY) : Prop :=
  ∃ (th sz S pr pl ct st rs rk : Int32) (ops xs ys zs N Q : Nat → Int32) (K : Nat → Int64) (ht ts tc se sd kn cv ca cb cs co : Nat → Int32), u = (th, sz, S, pr, pl, ct, st, -1, rs, rk, ops, xs, ys, zs, N, K, ht, ts, tc, se, sd, kn, cv, ca, cb, cs, co) ∧ v = (sz, pr, pl, ct, st, ops, xs, ys, zs, Q, N, K) ∧ jt_R k (ops, xs, ys, zs, sz) (kn, cv, ca, cb, cs, co) ts tc se sd Q S pl pr N
section
variable {th sz S pr pl ct st rs rk : Int32} {ops xs ys zs N Q : Nat → Int32} {K : Nat → Int64} {ht ts tc se sd kn cv ca cb cs co : Nat → Int32}
theorem jt_mk {k : Nat} (h : jt_R k (ops, xs, ys, zs, sz) (kn, cv, ca, cb, cs, co) ts tc se sd Q S pl pr N) : i_Rel k (th, sz, S, pr, pl, ct, st, -1, rs, rk, ops, xs, ys, zs, N, K, ht, ts, tc, se, sd, kn, cv, ca, cb, cs, co) (sz, pr, pl, ct, st, ops, xs, ys, zs, Q, N, K) :=
  ⟨th, sz, S, pr, pl, ct, st, rs, rk, ops, xs, ys, zs, N, Q, K, ht, ts, tc, se, sd, kn, cv, ca, cb, cs, co, rfl, rfl, h⟩
theorem jt_R_up {k : Nat} {P : jt_P} {C : jt_C} (h : jt_R k P C ts tc se sd Q S pl pr N) : jt_R (k + 5) P C ts tc se sd Q S pl pr N := by
  obtain ⟨h1, h2, h3, ⟨q, hq, e⟩, h5, h6⟩ := h
  exact ⟨h1, h2, h3, ⟨q, by omega, e⟩, h5, h6⟩
theorem jv_run {k T : Nat} {pX : Int32 → SX → Prop} (hk : k + 5 ≤ 2561) (hT : T ≤ 300) (h : jt_R k (ops, xs, ys, zs, sz) (kn, cv, ca, cb, cs, co) ts tc se sd Q S pl pr N)
    (hY : ∀ r u', (∃ n25 : Nat, wY_run_25 (fun r' v' => r' = r ∧ i_Rel (k + 5) u' v') (nI T) n25 0 sz pr pl ct st ops xs ys zs Q N K) → pX r u') : ∃ n11 : Nat, wX_run_11 pX n11 (nI T) 0 th sz S pr pl ct st (-1) rs rk ops xs ys zs N K ht ts tc se sd kn cv ca cb cs co := by
  have hup := jt_R_up h
  obtain ⟨hP, hw, hpl, ⟨q, hq, e⟩, hQ, hTok⟩ := h
  subst e
  by_cases s0 : st = 0
  · subst s0
    have ok : jt_ok (S, (N, K, nI q), pl, ct) := ⟨hw, hpl, q, by omega, rfl⟩
    refine ⟨T + 1, jx_loop hP (T + 1) T 0 S (nI q) pl ct (-1) rs rk N K ht ts tc se sd kn cv ca cb cs co (by omega) (by omega) ok hTok (Or.inl rfl) ?_⟩
    intro S' pr' pl' ct' st' rs' rk' N' K' ht' ts' tc' se' sd' kn' cv' ca' cb' cs' co' hr hT'
    refine hY _ _ ⟨T + 1, jy_loop hT hP T (T + 1) 0 q S pl ct N K Q (by omega) (by omega) ok hQ (by omega) ?_⟩
    intro S2 q2 pl2 ct2 st2 N2 K2 Q2 hr2 hQ2 hq2
    have hok := jt_rs_ok hP T _ ok
    rw [hr] at hr2 hok
    cases hr2
    exact ⟨rfl, jt_mk ⟨hP, hok.1, hok.2.1, ⟨q2, by omega, rfl⟩, hQ2, hT'⟩⟩
  · refine ⟨1, jx_exit (i := 0) (by omega) (Or.inl s0) (hY _ _ ⟨T + 1, ?_⟩)⟩
    exact jy_stay hT s0 ⟨rfl, jt_mk hup⟩ T (T + 1) 0 (by omega) (by omega)
end
theorem i_up {k : Nat} {u : SX} {v : SY} (h : i_Rel k u v) : i_Rel (k + 5) u v := by
  obtain ⟨th, sz, S, pr, pl, ct, st, rs, rk, ops, xs, ys, zs, N, Q, K, ht, ts, tc, se, sd, kn, cv, ca, cb, cs, co, rfl, rfl, h⟩ := h
  exact jt_mk (jt_R_up h)
theorem i_vc0 (k0 : Int32) : wpX_init (fun u => wpY_init (fun v => i_Rel 1 u v) k0) k0 := by
  have R : jt_R 1 ((fun _ => 0), (fun _ => 0), (fun _ => 0), (fun _ => 0), 0) ((fun _ => 0), (fun _ => 0), (fun _ => 0), (fun _ => 0), (fun _ => 0), (fun _ => 0)) (fun _ => 0) (fun _ => 0) (fun _ => 0) (fun _ => 0) (fun _ => 0) 0 0 0 (fun _ => 0) := by
    refine ⟨⟨0, by omega, rfl, fun i h => absurd h (by omega)⟩, jt_wf_0, ⟨0, by omega, rfl⟩, ⟨0, by omega, rfl⟩, ?_, fun t _ hn => absurd rfl hn⟩
    intro v hv
    exact ((by decide +kernel : ∀ v, v < 6 → jt_so 0 (nI v) = 0) v hv).symm
  unfold wpX_init wpX_clamp wpY_init
  exact br_c (fun _ => br_c (fun _ => jt_mk R) (fun _ => jt_mk R)) (fun _ => jt_mk R)
theorem i_vc_emit {k : Nat} {u : SX} {v : SY} (I : i_Rel k u v) (hk : k + 5 ≤ 2561) (v1 : Int32) (v2 : Int32) (v3 : Int32) (v4 : Int32) : wpX_emit (fun r u' => wpY_emit (fun r' v' => r' = r ∧ i_Rel (k + 5) u' v') v v1 v2 v3 v4) u v1 v2 v3 v4 := by
  obtain ⟨th, sz, S, pr, pl, ct, st, rs, rk, ops, xs, ys, zs, N, Q, K, ht, ts, tc, se, sd, kn, cv, ca, cb, cs, co, rfl, rfl, h⟩ := I
  have hup := jt_R_up h
  obtain ⟨⟨n, hn, e, hi⟩, hw, hpl, ⟨q, hq, eq⟩, hQ, hT⟩ := h
  have e' : sz = nI n := e
  subst e' eq
  unfold wpX_emit
  by_cases c : n = 24
  · subst c
    refine br_f (nI_nlt (b := 24) (by omega) (by omega)) ?_
    unfold wpY_emit
    exact br_t rfl ⟨rfl, jt_mk hup⟩
  · refine br_t (nI_lt (b := 24) (by omega) (by omega)) ?_
    have n24 : ¬ nI n = 24 := fun hh => c ((nI_eq (a := n) (b := 24) (by omega) (by omega)).mp hh)
    refine jx_isIns (fun hio => ?_) (fun hio => ?_)
    · refine br_f (by decide) (jx_write (by omega) (nm_r (nI_1 n) ?_))
      unfold wpY_emit
      refine br_f n24 (jy_fits (fun _ => br_f (by decide) (jy_write (by omega) (nm_r (nI_1 n) ⟨rfl, jt_mk ?_⟩))) (fun hn => absurd hio hn))
      have hP : jt_Pok (ops, xs, ys, zs, nI n) := ⟨n, hn, rfl, hi⟩
      refine ⟨⟨n + 1, by omega, rfl, ?_⟩, hw, hpl, ⟨q, by omega, rfl⟩, hQ, jt_Tok_mono hP (jt_sp_emit (by omega)) hT⟩
      intro i hin
      by_cases ci : i = n
      · subst ci
        show jt_iok (upd ops i v1 i) (upd xs i v2 i) (upd ys i v3 i) (upd zs i v4 i)
        rw [pk_us, pk_us, pk_us, pk_us]
        exact hio
      · show jt_iok (upd ops n v1 i) (upd xs n v2 i) (upd ys n v3 i) (upd zs n v4 i)
        rw [pk_un ci, pk_un ci, pk_un ci, pk_un ci]
        exact hi i (by omega)
    · refine br_t rfl ?_
      unfold wpY_emit
      exact br_f n24 (jy_fits (fun hh => absurd hh hio) (fun _ => br_t rfl ⟨rfl, jt_mk hup⟩))
theorem i_vc_replace {k : Nat} {u : SX} {v : SY} (I : i_Rel k u v) (hk : k + 5 ≤ 2561) (v1 : Int32) (v2 : Int32) (v3 : Int32) (v4 : Int32) : wpX_replace (fun r u' => wpY_replace (fun r' v' => r' = r ∧ i_Rel (k + 5) u' v') v v1 v2 v3 v4) u v1 v2 v3 v4 := by
  obtain ⟨th, sz, S, pr, pl, ct, st, rs, rk, ops, xs, ys, zs, N, Q, K, ht, ts, tc, se, sd, kn, cv, ca, cb, cs, co, rfl, rfl, h⟩ := I
  have hup := jt_R_up h
  obtain ⟨⟨n, hn, e, hi⟩, hw, hpl, ⟨q, hq, eq⟩, hQ, hT⟩ := h
  have e' : sz = nI n := e
  subst e' eq
  unfold wpX_replace
  rcases pk_ix v1 (n := n) (by omega) with c | c | ⟨j, hj, rfl⟩
  · refine br_t c ?_
    unfold wpY_replace
    exact br_t c ⟨rfl, jt_mk hup⟩
  · have c0 : ¬ v1 < 0 := fun hh => nI_pos (n := n) (by omega) (Int32.lt_of_le_of_lt c hh)
    refine br_f c0 (br_f (Int32.not_lt.mpr c) ?_)
    unfold wpY_replace
    exact br_f c0 (br_t c ⟨rfl, jt_mk hup⟩)
  · have c0 : ¬ nI j < 0 := nI_pos (by omega)
    have hin : vp_in (nI j) 24 := vp_in_nI (by omega) (by omega)
    have hlt : nI j < nI n := nI_lt hj (by omega)
    have Y0 : ∀ P : Prop, P → P := fun _ hh => hh
    refine br_f c0 (br_t hlt ⟨hin, jx_three (fun t1 => br_f (by decide) ?_) (fun t1 => br_t rfl (jx_three (fun t2 => br_f (by decide) ?_) (fun t2 => br_t rfl (jx_isIns (fun hio => br_f (by decide) (jx_write (by omega) (jx_forget (fun ht' ts' hz => ?_)))) (fun hio => br_t rfl ?_)))))⟩)
    · unfold wpY_replace
      exact br_f c0 (br_f (Int32.not_le.mpr hlt) ⟨hin, jy_typed (fun _ => br_f (by decide) ⟨rfl, jt_mk hup⟩) (fun hh => absurd t1 hh)⟩)
    · unfold wpY_replace
      exact br_f c0 (br_f (Int32.not_le.mpr hlt) ⟨hin, jy_typed (fun hh => absurd hh t1) (fun _ => br_t rfl (jy_typed (fun _ => br_f (by decide) ⟨rfl, jt_mk hup⟩) (fun hh => absurd t2 hh)))⟩)
    · unfold wpY_replace
      refine br_f c0 (br_f (Int32.not_le.mpr hlt) ⟨hin, jy_typed (fun hh => absurd hh t1) (fun _ => br_t rfl (jy_typed (fun hh => absurd hh t2) (fun _ => br_t rfl (jy_fits (fun _ => br_f (by decide) (jy_write (by omega) ⟨rfl, jt_mk ?_⟩)) (fun hh => absurd hio hh)))))⟩)
      refine ⟨⟨n, hn, rfl, ?_⟩, hw, hpl, ⟨q, by omega, rfl⟩, hQ, fun t h24 hne => absurd (hz t h24) hne⟩
      intro i hin
      by_cases ci : i = j
      · subst ci
        show jt_iok (upd ops i v2 i) (upd xs i v3 i) (upd ys i v4 i) (upd zs i 0 i)
        rw [pk_us, pk_us, pk_us, pk_us]
        exact hio
      · show jt_iok (upd ops j v2 i) (upd xs j v3 i) (upd ys j v4 i) (upd zs j 0 i)
        rw [pk_un ci, pk_un ci, pk_un ci, pk_un ci]
        exact hi i hin
    · unfold wpY_replace
      exact br_f c0 (br_f (Int32.not_le.mpr hlt) ⟨hin, jy_typed (fun hh => absurd hh t1) (fun _ => br_t rfl (jy_typed (fun hh => absurd hh t2) (fun _ => br_t rfl (jy_fits (fun hh => absurd hh hio) (fun _ => br_t rfl ⟨rfl, jt_mk hup⟩)))))⟩)
theorem i_vc_restart {k : Nat} {u : SX} {v : SY} (I : i_Rel k u v) (hk : k + 5 ≤ 2561) : wpX_restart (fun u' => wpY_restart (fun v' => i_Rel (k + 5) u' v') v) u := by
  obtain ⟨th, sz, S, pr, pl, ct, st, rs, rk, ops, xs, ys, zs, N, Q, K, ht, ts, tc, se, sd, kn, cv, ca, cb, cs, co, rfl, rfl, h⟩ := I
  obtain ⟨hP, hw, hpl, hq, hQ, hT⟩ := h
  have s0 : ∀ v, v < 6 → jt_so 0 (nI v) = 0 := by decide +kernel
  refine jx_restart (jy_restart (jt_mk ⟨hP, ?_, ⟨0, by omega, rfl⟩, ⟨0, by omega, rfl⟩, ?_, hT⟩))
  · intro v hv
    exact Or.inr (Or.inl ⟨s0 v hv, jt_zr_at N hv⟩)
  · intro v hv
    rw [jt_zr_at Q hv, s0 v hv]
theorem i_vc_put {k : Nat} {u : SX} {v : SY} (I : i_Rel k u v) (hk : k + 5 ≤ 2561) (v1 : Int32) (v2 : Int32) : wpX_put (fun r u' => wpY_put (fun r' v' => r' = r ∧ i_Rel (k + 5) u' v') v v1 v2) u v1 v2 := by
  obtain ⟨th, sz, S, pr, pl, ct, st, rs, rk, ops, xs, ys, zs, N, Q, K, ht, ts, tc, se, sd, kn, cv, ca, cb, cs, co, rfl, rfl, h⟩ := I
  have hup := jt_R_up h
  obtain ⟨hP, hw, hpl, hq, hQ, hT⟩ := hup
  unfold wpX_put
  refine jx_isVar (fun hv => br_f (by decide) (jx_assign hv ?_)) (fun hv => br_t rfl ?_)
  · unfold wpY_put
    exact jy_isVar (fun _ => br_f (by decide) (jy_give hv ⟨rfl, jt_mk ⟨hP, jt_wf_up hw hv (Or.inl rfl), hpl, hq, jt_Q_up hQ hv jt_sr1, hT⟩⟩)) (fun hh => absurd hv hh)
  · unfold wpY_put
    exact jy_isVar (fun hh => absurd hh hv) (fun _ => br_t rfl ⟨rfl, jt_mk ⟨hP, hw, hpl, hq, hQ, hT⟩⟩)
theorem i_vc_run {k : Nat} {u : SX} {v : SY} (I : i_Rel k u v) (hk : k + 5 ≤ 2561) (v1 : Int32) : wpX_run (fun r u' => wpY_run (fun r' v' => r' = r ∧ i_Rel (k + 5) u' v') v v1) u v1 := by
  obtain ⟨th, sz, S, pr, pl, ct, st, rs, rk, ops, xs, ys, zs, N, Q, K, ht, ts, tc, se, sd, kn, cv, ca, cb, cs, co, rfl, rfl, h⟩ := I
  unfold wpX_run
  rcases pk_ix v1 (n := 301) (by omega) with c | c | ⟨T, hT, rfl⟩
  · have c0 : ¬ 0 ≤ v1 := Int32.not_le.mpr c
    unfold wpX_clamp
    refine br_f c0 (jv_run (T := 0) hk (by omega) h (fun r u' hh => ?_))
    unfold wpY_run
    exact br_f c0 hh
  · have c0 : 0 ≤ v1 := Int32.le_trans (by decide) c
    have c3 : ¬ v1 ≤ 300 := fun hh => nI_ge (a := 300) (b := 301) (by omega) (by omega) (Int32.le_trans c hh)
    unfold wpX_clamp
    refine br_t c0 (br_f c3 (jv_run (T := 300) hk (by omega) h (fun r u' hh => ?_)))
    unfold wpY_run
    exact br_t c0 (br_f c3 hh)
  · have c0 : 0 ≤ nI T := nI_pos' (by omega)
    have c3 : nI T ≤ 300 := nI_le (b := 300) (by omega) (by omega)
    unfold wpX_clamp
    refine br_t c0 (br_t c3 (jv_run (T := T) hk (by omega) h (fun r u' hh => ?_)))
    unfold wpY_run
    exact br_t c0 (br_t c3 hh)
theorem i_vc_status {k : Nat} {u : SX} {v : SY} (I : i_Rel k u v) (hk : k + 5 ≤ 2561) : wpX_status (fun r => wpY_status (fun r' => r' = r ∧ i_Rel (k + 5) u v) v) u := by
  obtain ⟨th, sz, S, pr, pl, ct, st, rs, rk, ops, xs, ys, zs, N, Q, K, ht, ts, tc, se, sd, kn, cv, ca, cb, cs, co, rfl, rfl, h⟩ := I
  exact ⟨rfl, jt_mk (jt_R_up h)⟩
theorem i_vc_place {k : Nat} {u : SX} {v : SY} (I : i_Rel k u v) (hk : k + 5 ≤ 2561) : wpX_place (fun r => wpY_place (fun r' => r' = r ∧ i_Rel (k + 5) u v) v) u := by
  obtain ⟨th, sz, S, pr, pl, ct, st, rs, rk, ops, xs, ys, zs, N, Q, K, ht, ts, tc, se, sd, kn, cv, ca, cb, cs, co, rfl, rfl, h⟩ := I
  exact ⟨rfl, jt_mk (jt_R_up h)⟩
theorem i_vc_count {k : Nat} {u : SX} {v : SY} (I : i_Rel k u v) (hk : k + 5 ≤ 2561) : wpX_count (fun r => wpY_count (fun r' => r' = r ∧ i_Rel (k + 5) u v) v) u := by
  obtain ⟨th, sz, S, pr, pl, ct, st, rs, rk, ops, xs, ys, zs, N, Q, K, ht, ts, tc, se, sd, kn, cv, ca, cb, cs, co, rfl, rfl, h⟩ := I
  exact ⟨rfl, jt_mk (jt_R_up h)⟩
theorem i_vc_sort {k : Nat} {u : SX} {v : SY} (I : i_Rel k u v) (hk : k + 5 ≤ 2561) (v1 : Int32) : wpX_sort (fun r => wpY_sort (fun r' => r' = r ∧ i_Rel (k + 5) u v) v v1) u v1 := by
  obtain ⟨th, sz, S, pr, pl, ct, st, rs, rk, ops, xs, ys, zs, N, Q, K, ht, ts, tc, se, sd, kn, cv, ca, cb, cs, co, rfl, rfl, h⟩ := I
  unfold wpX_sort
  refine jx_isVar (fun hv => br_f (by decide) (jx_sortIn ?_)) (fun hv => br_t rfl ?_)
  · unfold wpY_sort
    exact jy_isVar (fun _ => br_f (by decide) ⟨jt_vr_in hv, jt_Q_at h.2.2.2.2.1 hv, jt_mk (jt_R_up h)⟩) (fun hh => absurd hv hh)
  · unfold wpY_sort
    exact jy_isVar (fun hh => absurd hh hv) (fun _ => br_t rfl ⟨rfl, jt_mk (jt_R_up h)⟩)
theorem i_vc_value {k : Nat} {u : SX} {v : SY} (I : i_Rel k u v) (hk : k + 5 ≤ 2561) (v1 : Int32) : wpX_value (fun r => wpY_value (fun r' => r' = r ∧ i_Rel (k + 5) u v) v v1) u v1 := by
  obtain ⟨th, sz, S, pr, pl, ct, st, rs, rk, ops, xs, ys, zs, N, Q, K, ht, ts, tc, se, sd, kn, cv, ca, cb, cs, co, rfl, rfl, h⟩ := I
  unfold wpX_value
  refine jx_isVar (fun hv => br_f (by decide) ⟨jt_vr_in hv, ?_⟩) (fun hv => br_t rfl ?_)
  · unfold wpY_value
    exact jy_isVar (fun _ => br_f (by decide) ⟨jt_vr_in hv, rfl, jt_mk (jt_R_up h)⟩) (fun hh => absurd hv hh)
  · unfold wpY_value
    exact jy_isVar (fun hh => absurd hh hv) (fun _ => br_t rfl ⟨rfl, jt_mk (jt_R_up h)⟩)
theorem i_vc_printed {k : Nat} {u : SX} {v : SY} (I : i_Rel k u v) (hk : k + 5 ≤ 2561) : wpX_printed (fun r => wpY_printed (fun r' => r' = r ∧ i_Rel (k + 5) u v) v) u := by
  obtain ⟨th, sz, S, pr, pl, ct, st, rs, rk, ops, xs, ys, zs, N, Q, K, ht, ts, tc, se, sd, kn, cv, ca, cb, cs, co, rfl, rfl, h⟩ := I
  exact ⟨rfl, jt_mk (jt_R_up h)⟩
theorem i_vc_output {k : Nat} {u : SX} {v : SY} (I : i_Rel k u v) (hk : k + 5 ≤ 2561) (v1 : Int32) : wpX_output (fun r => wpY_output (fun r' => r' = r ∧ i_Rel (k + 5) u v) v v1) u v1 := by
  obtain ⟨th, sz, S, pr, pl, ct, st, rs, rk, ops, xs, ys, zs, N, Q, K, ht, ts, tc, se, sd, kn, cv, ca, cb, cs, co, rfl, rfl, h⟩ := I
  have R := jt_mk (th := th) (ct := ct) (st := st) (rs := rs) (rk := rk) (K := K) (ht := ht) (jt_R_up h)
  unfold wpX_output
  by_cases c0 : v1 < 0
  · refine br_t c0 ?_
    unfold wpY_output
    exact br_t c0 ⟨rfl, R⟩
  · refine br_f c0 ?_
    by_cases cp : pr ≤ v1
    · refine br_t cp ?_
      unfold wpY_output
      exact br_f c0 (br_t cp ⟨rfl, R⟩)
    · refine br_f cp ?_
      by_cases c : v1 < 24
      · have hin : vp_in v1 24 := by
          obtain ⟨j, hj, rfl⟩ := nI_of c0
          exact vp_in_nI ((nI_ltI (a := j) (b := 24) hj (by omega)).mp c) (by omega)
        refine br_t c ⟨hin, ?_⟩
        unfold wpY_output
        exact br_f c0 (br_f cp (br_f (Int32.not_le.mpr c) ⟨hin, rfl, R⟩))
      · refine br_f c ?_
        unfold wpY_output
        exact br_f c0 (br_f cp (br_t (Int32.not_lt.mp c) ⟨rfl, R⟩))
end
