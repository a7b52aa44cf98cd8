abbrev jt_G : Type := (Nat → Int32) × (Nat → Int64) × Int32
abbrev jt_M : Type := Int32 × jt_G × Int32 × Int32
abbrev jt_P : Type := (Nat → Int32) × (Nat → Int32) × (Nat → Int32) × (Nat → Int32) × Int32
abbrev jt_C : Type := (Nat → Int32) × (Nat → Int32) × (Nat → Int32) × (Nat → Int32) × (Nat → Int32) × (Nat → Int32)
def jt_pK (K : Nat → Int64) (pr n s : Int32) : Nat → Int64 := if pr < 24 then vp_updL K pr.toNatClampNeg ((4 : Int64) * n.toInt64 + s.toInt64) else K
def jt_pI (pr : Int32) : Int32 := if pr < 2147483647 then pr + 1 else pr
def jt_eS (op x y z S : Int32) : Int32 := if op = 0 then (jt_as S x 1) else if op = 1 then (jt_as S x 2) else if op = 2 then (jt_as S x 0) else if op = 3 then (jt_as S x (jt_so S y)) else if op = 4 then (jt_as S x (if jt_so S y = 1 then 1 else 2)) else if op = 5 then (jt_as S x 1) else if op = 6 then (jt_as S x 2) else if op = 7 then (jt_as S x 2) else S
theorem jt_eS_0 (x y z S : Int32) : jt_eS 0 x y z S = (jt_as S x 1) := by
  unfold jt_eS
  rw [if_pos rfl]
theorem jt_eS_1 (x y z S : Int32) : jt_eS 1 x y z S = (jt_as S x 2) := by
  unfold jt_eS
  rw [if_neg (by decide), if_pos rfl]
theorem jt_eS_2 (x y z S : Int32) : jt_eS 2 x y z S = (jt_as S x 0) := by
  unfold jt_eS
  rw [if_neg (by decide), if_neg (by decide), if_pos rfl]
theorem jt_eS_3 (x y z S : Int32) : jt_eS 3 x y z S = (jt_as S x (jt_so S y)) := by
  unfold jt_eS
  rw [if_neg (by decide), if_neg (by decide), if_neg (by decide), if_pos rfl]
theorem jt_eS_4 (x y z S : Int32) : jt_eS 4 x y z S = (jt_as S x (if jt_so S y = 1 then 1 else 2)) := by
  unfold jt_eS
  rw [if_neg (by decide), if_neg (by decide), if_neg (by decide), if_neg (by decide), if_pos rfl]
theorem jt_eS_5 (x y z S : Int32) : jt_eS 5 x y z S = (jt_as S x 1) := by
  unfold jt_eS
  rw [if_neg (by decide), if_neg (by decide), if_neg (by decide), if_neg (by decide), if_neg (by decide), if_pos rfl]
theorem jt_eS_6 (x y z S : Int32) : jt_eS 6 x y z S = (jt_as S x 2) := by
  unfold jt_eS
  rw [if_neg (by decide), if_neg (by decide), if_neg (by decide), if_neg (by decide), if_neg (by decide), if_neg (by decide), if_pos rfl]
theorem jt_eS_7 (x y z S : Int32) : jt_eS 7 x y z S = (jt_as S x 2) := by
  unfold jt_eS
  rw [if_neg (by decide), if_neg (by decide), if_neg (by decide), if_neg (by decide), if_neg (by decide), if_neg (by decide), if_neg (by decide), if_pos rfl]
theorem jt_eS_8 (x y z S : Int32) : jt_eS 8 x y z S = (S) := by
  unfold jt_eS
  rw [if_neg (by decide), if_neg (by decide), if_neg (by decide), if_neg (by decide), if_neg (by decide), if_neg (by decide), if_neg (by decide), if_neg (by decide)]
theorem jt_eS_9 (x y z S : Int32) : jt_eS 9 x y z S = (S) := by
  unfold jt_eS
  rw [if_neg (by decide), if_neg (by decide), if_neg (by decide), if_neg (by decide), if_neg (by decide), if_neg (by decide), if_neg (by decide), if_neg (by decide)]
theorem jt_eS_10 (x y z S : Int32) : jt_eS 10 x y z S = (S) := by
  unfold jt_eS
  rw [if_neg (by decide), if_neg (by decide), if_neg (by decide), if_neg (by decide), if_neg (by decide), if_neg (by decide), if_neg (by decide), if_neg (by decide)]
def jt_eN (op x y z S : Int32) (N : Nat → Int32) : Nat → Int32 := if op = 0 then (upd N x.toNatClampNeg y) else if op = 1 then (upd N x.toNatClampNeg (if y = 0 then 0 else 1)) else if op = 2 then (upd N x.toNatClampNeg 0) else if op = 3 then (upd N x.toNatClampNeg (N y.toNatClampNeg)) else if op = 4 then (upd N x.toNatClampNeg (if jt_so S y = 1 then N y.toNatClampNeg + N z.toNatClampNeg else N y.toNatClampNeg ||| N z.toNatClampNeg)) else if op = 5 then (upd N x.toNatClampNeg (N y.toNatClampNeg - N z.toNatClampNeg)) else if op = 6 then (upd N x.toNatClampNeg (if N y.toNatClampNeg < N z.toNatClampNeg then 1 else 0)) else if op = 7 then (upd N x.toNatClampNeg (if jt_so S y = jt_so S z ∧ N y.toNatClampNeg = N z.toNatClampNeg then 1 else 0)) else N
theorem jt_eN_0 (x y z S : Int32) (N : Nat → Int32) : jt_eN 0 x y z S N = (upd N x.toNatClampNeg y) := by
  unfold jt_eN
  rw [if_pos rfl]
theorem jt_eN_1 (x y z S : Int32) (N : Nat → Int32) : jt_eN 1 x y z S N = (upd N x.toNatClampNeg (if y = 0 then 0 else 1)) := by
  unfold jt_eN
  rw [if_neg (by decide), if_pos rfl]
theorem jt_eN_2 (x y z S : Int32) (N : Nat → Int32) : jt_eN 2 x y z S N = (upd N x.toNatClampNeg 0) := by
  unfold jt_eN
  rw [if_neg (by decide), if_neg (by decide), if_pos rfl]
theorem jt_eN_3 (x y z S : Int32) (N : Nat → Int32) : jt_eN 3 x y z S N = (upd N x.toNatClampNeg (N y.toNatClampNeg)) := by
  unfold jt_eN
  rw [if_neg (by decide), if_neg (by decide), if_neg (by decide), if_pos rfl]
theorem jt_eN_4 (x y z S : Int32) (N : Nat → Int32) : jt_eN 4 x y z S N = (upd N x.toNatClampNeg (if jt_so S y = 1 then N y.toNatClampNeg + N z.toNatClampNeg else N y.toNatClampNeg ||| N z.toNatClampNeg)) := by
  unfold jt_eN
  rw [if_neg (by decide), if_neg (by decide), if_neg (by decide), if_neg (by decide), if_pos rfl]
theorem jt_eN_5 (x y z S : Int32) (N : Nat → Int32) : jt_eN 5 x y z S N = (upd N x.toNatClampNeg (N y.toNatClampNeg - N z.toNatClampNeg)) := by
  unfold jt_eN
  rw [if_neg (by decide), if_neg (by decide), if_neg (by decide), if_neg (by decide), if_neg (by decide), if_pos rfl]
theorem jt_eN_6 (x y z S : Int32) (N : Nat → Int32) : jt_eN 6 x y z S N = (upd N x.toNatClampNeg (if N y.toNatClampNeg < N z.toNatClampNeg then 1 else 0)) := by
  unfold jt_eN
  rw [if_neg (by decide), if_neg (by decide), if_neg (by decide), if_neg (by decide), if_neg (by decide), if_neg (by decide), if_pos rfl]
theorem jt_eN_7 (x y z S : Int32) (N : Nat → Int32) : jt_eN 7 x y z S N = (upd N x.toNatClampNeg (if jt_so S y = jt_so S z ∧ N y.toNatClampNeg = N z.toNatClampNeg then 1 else 0)) := by
  unfold jt_eN
  rw [if_neg (by decide), if_neg (by decide), if_neg (by decide), if_neg (by decide), if_neg (by decide), if_neg (by decide), if_neg (by decide), if_pos rfl]
theorem jt_eN_8 (x y z S : Int32) (N : Nat → Int32) : jt_eN 8 x y z S N = (N) := by
  unfold jt_eN
  rw [if_neg (by decide), if_neg (by decide), if_neg (by decide), if_neg (by decide), if_neg (by decide), if_neg (by decide), if_neg (by decide), if_neg (by decide)]
theorem jt_eN_9 (x y z S : Int32) (N : Nat → Int32) : jt_eN 9 x y z S N = (N) := by
  unfold jt_eN
  rw [if_neg (by decide), if_neg (by decide), if_neg (by decide), if_neg (by decide), if_neg (by decide), if_neg (by decide), if_neg (by decide), if_neg (by decide)]
theorem jt_eN_10 (x y z S : Int32) (N : Nat → Int32) : jt_eN 10 x y z S N = (N) := by
  unfold jt_eN
  rw [if_neg (by decide), if_neg (by decide), if_neg (by decide), if_neg (by decide), if_neg (by decide), if_neg (by decide), if_neg (by decide), if_neg (by decide)]
def jt_eK (op x S pr : Int32) (N : Nat → Int32) (K : Nat → Int64) : Nat → Int64 := if op = 10 then (jt_pK K pr (N x.toNatClampNeg) (jt_so S x)) else K
theorem jt_eK_0 (x S pr : Int32) (N : Nat → Int32) (K : Nat → Int64) : jt_eK 0 x S pr N K = (K) := by
  unfold jt_eK
  rw [if_neg (by decide)]
theorem jt_eK_1 (x S pr : Int32) (N : Nat → Int32) (K : Nat → Int64) : jt_eK 1 x S pr N K = (K) := by
  unfold jt_eK
  rw [if_neg (by decide)]
theorem jt_eK_2 (x S pr : Int32) (N : Nat → Int32) (K : Nat → Int64) : jt_eK 2 x S pr N K = (K) := by
  unfold jt_eK
  rw [if_neg (by decide)]
theorem jt_eK_3 (x S pr : Int32) (N : Nat → Int32) (K : Nat → Int64) : jt_eK 3 x S pr N K = (K) := by
  unfold jt_eK
  rw [if_neg (by decide)]
theorem jt_eK_4 (x S pr : Int32) (N : Nat → Int32) (K : Nat → Int64) : jt_eK 4 x S pr N K = (K) := by
  unfold jt_eK
  rw [if_neg (by decide)]
theorem jt_eK_5 (x S pr : Int32) (N : Nat → Int32) (K : Nat → Int64) : jt_eK 5 x S pr N K = (K) := by
  unfold jt_eK
  rw [if_neg (by decide)]
theorem jt_eK_6 (x S pr : Int32) (N : Nat → Int32) (K : Nat → Int64) : jt_eK 6 x S pr N K = (K) := by
  unfold jt_eK
  rw [if_neg (by decide)]
theorem jt_eK_7 (x S pr : Int32) (N : Nat → Int32) (K : Nat → Int64) : jt_eK 7 x S pr N K = (K) := by
  unfold jt_eK
  rw [if_neg (by decide)]
theorem jt_eK_8 (x S pr : Int32) (N : Nat → Int32) (K : Nat → Int64) : jt_eK 8 x S pr N K = (K) := by
  unfold jt_eK
  rw [if_neg (by decide)]
theorem jt_eK_9 (x S pr : Int32) (N : Nat → Int32) (K : Nat → Int64) : jt_eK 9 x S pr N K = (K) := by
  unfold jt_eK
  rw [if_neg (by decide)]
theorem jt_eK_10 (x S pr : Int32) (N : Nat → Int32) (K : Nat → Int64) : jt_eK 10 x S pr N K = (jt_pK K pr (N x.toNatClampNeg) (jt_so S x)) := by
  unfold jt_eK
  rw [if_pos rfl]
def jt_eP (op pr : Int32) : Int32 := if op = 10 then (jt_pI pr) else pr
theorem jt_eP_0 (pr : Int32) : jt_eP 0 pr = (pr) := by
  unfold jt_eP
  rw [if_neg (by decide)]
theorem jt_eP_1 (pr : Int32) : jt_eP 1 pr = (pr) := by
  unfold jt_eP
  rw [if_neg (by decide)]
theorem jt_eP_2 (pr : Int32) : jt_eP 2 pr = (pr) := by
  unfold jt_eP
  rw [if_neg (by decide)]
theorem jt_eP_3 (pr : Int32) : jt_eP 3 pr = (pr) := by
  unfold jt_eP
  rw [if_neg (by decide)]
theorem jt_eP_4 (pr : Int32) : jt_eP 4 pr = (pr) := by
  unfold jt_eP
  rw [if_neg (by decide)]
theorem jt_eP_5 (pr : Int32) : jt_eP 5 pr = (pr) := by
  unfold jt_eP
  rw [if_neg (by decide)]
theorem jt_eP_6 (pr : Int32) : jt_eP 6 pr = (pr) := by
  unfold jt_eP
  rw [if_neg (by decide)]
theorem jt_eP_7 (pr : Int32) : jt_eP 7 pr = (pr) := by
  unfold jt_eP
  rw [if_neg (by decide)]
theorem jt_eP_8 (pr : Int32) : jt_eP 8 pr = (pr) := by
  unfold jt_eP
  rw [if_neg (by decide)]
theorem jt_eP_9 (pr : Int32) : jt_eP 9 pr = (pr) := by
  unfold jt_eP
  rw [if_neg (by decide)]
theorem jt_eP_10 (pr : Int32) : jt_eP 10 pr = (jt_pI pr) := by
  unfold jt_eP
  rw [if_pos rfl]
def jt_eL (op x y i S : Int32) (N : Nat → Int32) : Int32 := if op = 8 then (if ¬ jt_so S x = 1 ∧ N x.toNatClampNeg = 0 then y else i + 1) else if op = 9 then (x) else i + 1
theorem jt_eL_0 (x y i S : Int32) (N : Nat → Int32) : jt_eL 0 x y i S N = (i + 1) := by
  unfold jt_eL
  rw [if_neg (by decide), if_neg (by decide)]
theorem jt_eL_1 (x y i S : Int32) (N : Nat → Int32) : jt_eL 1 x y i S N = (i + 1) := by
  unfold jt_eL
  rw [if_neg (by decide), if_neg (by decide)]
theorem jt_eL_2 (x y i S : Int32) (N : Nat → Int32) : jt_eL 2 x y i S N = (i + 1) := by
  unfold jt_eL
  rw [if_neg (by decide), if_neg (by decide)]
theorem jt_eL_3 (x y i S : Int32) (N : Nat → Int32) : jt_eL 3 x y i S N = (i + 1) := by
  unfold jt_eL
  rw [if_neg (by decide), if_neg (by decide)]
theorem jt_eL_4 (x y i S : Int32) (N : Nat → Int32) : jt_eL 4 x y i S N = (i + 1) := by
  unfold jt_eL
  rw [if_neg (by decide), if_neg (by decide)]
theorem jt_eL_5 (x y i S : Int32) (N : Nat → Int32) : jt_eL 5 x y i S N = (i + 1) := by
  unfold jt_eL
  rw [if_neg (by decide), if_neg (by decide)]
theorem jt_eL_6 (x y i S : Int32) (N : Nat → Int32) : jt_eL 6 x y i S N = (i + 1) := by
  unfold jt_eL
  rw [if_neg (by decide), if_neg (by decide)]
theorem jt_eL_7 (x y i S : Int32) (N : Nat → Int32) : jt_eL 7 x y i S N = (i + 1) := by
  unfold jt_eL
  rw [if_neg (by decide), if_neg (by decide)]
theorem jt_eL_8 (x y i S : Int32) (N : Nat → Int32) : jt_eL 8 x y i S N = (if ¬ jt_so S x = 1 ∧ N x.toNatClampNeg = 0 then y else i + 1) := by
  unfold jt_eL
  rw [if_pos rfl]
theorem jt_eL_9 (x y i S : Int32) (N : Nat → Int32) : jt_eL 9 x y i S N = (x) := by
  unfold jt_eL
  rw [if_neg (by decide), if_pos rfl]
theorem jt_eL_10 (x y i S : Int32) (N : Nat → Int32) : jt_eL 10 x y i S N = (i + 1) := by
  unfold jt_eL
  rw [if_neg (by decide), if_neg (by decide)]
def jt_cd (op x y z i S : Int32) (N : Nat → Int32) : Option (Int32 × Int32 × Int32 × Int32) := if op = 0 then (some (0, x, N x.toNatClampNeg, 0)) else if op = 1 then (some (0, x, N x.toNatClampNeg, 0)) else if op = 2 then (some (0, x, N x.toNatClampNeg, 0)) else if op = 3 then (some (1, x, y, 0)) else if op = 4 then (some (if jt_so S y = 1 then 2 else 3, x, y, z)) else if op = 5 then (some (4, x, y, z)) else if op = 6 then (some (5, x, y, z)) else if op = 7 then (if jt_so S y = jt_so S z then some (6, x, y, z) else some (0, x, 0, 0)) else if op = 8 then (if jt_so S x = 2 then some (8, x, N x.toNatClampNeg, if N x.toNatClampNeg = 0 then i + 1 else y) else none) else if op = 10 then (some (7, x, jt_so S x, 0)) else none
theorem jt_cd_0 (x y z i S : Int32) (N : Nat → Int32) : jt_cd 0 x y z i S N = (some (0, x, N x.toNatClampNeg, 0)) := by
  unfold jt_cd
  rw [if_pos rfl]
theorem jt_cd_1 (x y z i S : Int32) (N : Nat → Int32) : jt_cd 1 x y z i S N = (some (0, x, N x.toNatClampNeg, 0)) := by
  unfold jt_cd
  rw [if_neg (by decide), if_pos rfl]
theorem jt_cd_2 (x y z i S : Int32) (N : Nat → Int32) : jt_cd 2 x y z i S N = (some (0, x, N x.toNatClampNeg, 0)) := by
  unfold jt_cd
  rw [if_neg (by decide), if_neg (by decide), if_pos rfl]
theorem jt_cd_3 (x y z i S : Int32) (N : Nat → Int32) : jt_cd 3 x y z i S N = (some (1, x, y, 0)) := by
  unfold jt_cd
  rw [if_neg (by decide), if_neg (by decide), if_neg (by decide), if_pos rfl]
theorem jt_cd_4 (x y z i S : Int32) (N : Nat → Int32) : jt_cd 4 x y z i S N = (some (if jt_so S y = 1 then 2 else 3, x, y, z)) := by
  unfold jt_cd
  rw [if_neg (by decide), if_neg (by decide), if_neg (by decide), if_neg (by decide), if_pos rfl]
theorem jt_cd_5 (x y z i S : Int32) (N : Nat → Int32) : jt_cd 5 x y z i S N = (some (4, x, y, z)) := by
  unfold jt_cd
  rw [if_neg (by decide), if_neg (by decide), if_neg (by decide), if_neg (by decide), if_neg (by decide), if_pos rfl]
theorem jt_cd_6 (x y z i S : Int32) (N : Nat → Int32) : jt_cd 6 x y z i S N = (some (5, x, y, z)) := by
  unfold jt_cd
  rw [if_neg (by decide), if_neg (by decide), if_neg (by decide), if_neg (by decide), if_neg (by decide), if_neg (by decide), if_pos rfl]
theorem jt_cd_7 (x y z i S : Int32) (N : Nat → Int32) : jt_cd 7 x y z i S N = (if jt_so S y = jt_so S z then some (6, x, y, z) else some (0, x, 0, 0)) := by
  unfold jt_cd
  rw [if_neg (by decide), if_neg (by decide), if_neg (by decide), if_neg (by decide), if_neg (by decide), if_neg (by decide), if_neg (by decide), if_pos rfl]
theorem jt_cd_8 (x y z i S : Int32) (N : Nat → Int32) : jt_cd 8 x y z i S N = (if jt_so S x = 2 then some (8, x, N x.toNatClampNeg, if N x.toNatClampNeg = 0 then i + 1 else y) else none) := by
  unfold jt_cd
  rw [if_neg (by decide), if_neg (by decide), if_neg (by decide), if_neg (by decide), if_neg (by decide), if_neg (by decide), if_neg (by decide), if_neg (by decide), if_pos rfl]
theorem jt_cd_9 (x y z i S : Int32) (N : Nat → Int32) : jt_cd 9 x y z i S N = (none) := by
  unfold jt_cd
  rw [if_neg (by decide), if_neg (by decide), if_neg (by decide), if_neg (by decide), if_neg (by decide), if_neg (by decide), if_neg (by decide), if_neg (by decide), if_neg (by decide), if_neg (by decide)]
theorem jt_cd_10 (x y z i S : Int32) (N : Nat → Int32) : jt_cd 10 x y z i S N = (some (7, x, jt_so S x, 0)) := by
  unfold jt_cd
  rw [if_neg (by decide), if_neg (by decide), if_neg (by decide), if_neg (by decide), if_neg (by decide), if_neg (by decide), if_neg (by decide), if_neg (by decide), if_neg (by decide), if_pos rfl]
abbrev jt_fl (op y z S : Int32) : Prop := (op = 4 ∨ op = 5 ∨ op = 6) ∧ ¬ (jt_so S y = 1 ∧ jt_so S z = 1) ∧ ¬ (op = 4 ∧ jt_so S y = 2 ∧ jt_so S z = 2)
def jt_eg (op x y z S : Int32) (g : jt_G) : jt_G := (jt_eN op x y z S g.1, jt_eK op x S g.2.2 g.1 g.2.1, jt_eP op g.2.2)
def jt_ex (op x y z i S : Int32) (g : jt_G) (ct : Int32) : jt_M := (jt_eS op x y z S, jt_eg op x y z S g, jt_eL op x y i S g.1, ct + 1)
def jt_sp (P : jt_P) (M : jt_M) : jt_M ⊕ Int32 :=
  if P.2.2.2.2 ≤ M.2.2.1 then .inr 1
  else if jt_fl (P.1 M.2.2.1.toNatClampNeg) (P.2.2.1 M.2.2.1.toNatClampNeg) (P.2.2.2.1 M.2.2.1.toNatClampNeg) M.1 then .inr 2
  else .inl (jt_ex (P.1 M.2.2.1.toNatClampNeg) (P.2.1 M.2.2.1.toNatClampNeg) (P.2.2.1 M.2.2.1.toNatClampNeg) (P.2.2.2.1 M.2.2.1.toNatClampNeg) M.2.2.1 M.1 M.2.1 M.2.2.2)
theorem jt_sp_end {ops xs ys zs : Nat → Int32} {sz S pl ct : Int32} {g : jt_G} (h : sz ≤ pl) : jt_sp (ops, xs, ys, zs, sz) (S, g, pl, ct) = .inr 1 := by
  unfold jt_sp
  dsimp only
  rw [if_pos h]
theorem jt_sp_fault {ops xs ys zs : Nat → Int32} {sz S pl ct : Int32} {g : jt_G} (h : ¬ sz ≤ pl) (hf : jt_fl (ops pl.toNatClampNeg) (ys pl.toNatClampNeg) (zs pl.toNatClampNeg) S) : jt_sp (ops, xs, ys, zs, sz) (S, g, pl, ct) = .inr 2 := by
  unfold jt_sp
  dsimp only
  rw [if_neg h, if_pos hf]
theorem jt_sp_go {ops xs ys zs : Nat → Int32} {sz S pl ct : Int32} {g : jt_G} (h : ¬ sz ≤ pl) (hf : ¬ jt_fl (ops pl.toNatClampNeg) (ys pl.toNatClampNeg) (zs pl.toNatClampNeg) S) : jt_sp (ops, xs, ys, zs, sz) (S, g, pl, ct) = .inl (jt_ex (ops pl.toNatClampNeg) (xs pl.toNatClampNeg) (ys pl.toNatClampNeg) (zs pl.toNatClampNeg) pl S g ct) := by
  unfold jt_sp
  dsimp only
  rw [if_neg h, if_neg hf]
theorem jt_sp_l {ops xs ys zs : Nat → Int32} {sz S pl ct : Int32} {g : jt_G} {M' : jt_M} (h : jt_sp (ops, xs, ys, zs, sz) (S, g, pl, ct) = .inl M') : ¬ sz ≤ pl ∧ ¬ jt_fl (ops pl.toNatClampNeg) (ys pl.toNatClampNeg) (zs pl.toNatClampNeg) S ∧ M' = jt_ex (ops pl.toNatClampNeg) (xs pl.toNatClampNeg) (ys pl.toNatClampNeg) (zs pl.toNatClampNeg) pl S g ct := by
  by_cases h1 : sz ≤ pl
  · rw [jt_sp_end h1] at h
    cases h
  · by_cases h2 : jt_fl (ops pl.toNatClampNeg) (ys pl.toNatClampNeg) (zs pl.toNatClampNeg) S
    · rw [jt_sp_fault h1 h2] at h
      cases h
    · rw [jt_sp_go h1 h2] at h
      exact ⟨h1, h2, (Sum.inl.inj h).symm⟩
def jt_iok (op x y z : Int32) : Prop :=
  (op = 0 ∧ jt_vr x) ∨ (op = 1 ∧ jt_vr x) ∨ (op = 2 ∧ jt_vr x) ∨ (op = 3 ∧ jt_vr x ∧ jt_vr y) ∨ (op = 4 ∧ jt_vr x ∧ jt_vr y ∧ jt_vr z) ∨ (op = 5 ∧ jt_vr x ∧ jt_vr y ∧ jt_vr z) ∨ (op = 6 ∧ jt_vr x ∧ jt_vr y ∧ jt_vr z) ∨ (op = 7 ∧ jt_vr x ∧ jt_vr y ∧ jt_vr z) ∨ (op = 8 ∧ jt_vr x ∧ jt_tg y) ∨ (op = 9 ∧ jt_tg x) ∨ (op = 10 ∧ jt_vr x)
/-- the program: n instructions, each fit -/
def jt_Pok (P : jt_P) : Prop := ∃ n, n ≤ 24 ∧ P.2.2.2.2 = nI n ∧ ∀ i, i < n → jt_iok (P.1 i) (P.2.1 i) (P.2.2.1 i) (P.2.2.2.1 i)
def jt_pl (pl : Int32) : Prop := ∃ p, p ≤ 24 ∧ pl = nI p
def jt_pr (pr : Int32) : Prop := ∃ q, q < 2 ^ 31 ∧ pr = nI q
def jt_ok (M : jt_M) : Prop := jt_wf M.1 M.2.1.1 ∧ jt_pl M.2.2.1 ∧ jt_pr M.2.1.2.2
theorem jt_at {ops xs ys zs : Nat → Int32} {sz pl : Int32} (hP : jt_Pok (ops, xs, ys, zs, sz)) (hp : jt_pl pl) (h : ¬ sz ≤ pl) : ∃ p, p < 24 ∧ pl = nI p ∧ pl.toNatClampNeg = p ∧ jt_iok (ops p) (xs p) (ys p) (zs p) := by
  obtain ⟨n, hn, e, hi⟩ := hP
  obtain ⟨p, hp, rfl⟩ := hp
  have e' : sz = nI n := e
  rw [e', nI_leI (by omega) (by omega)] at h
  exact ⟨p, by omega, rfl, nI_clamp (by omega), hi p (by omega)⟩
theorem jt_vs2 {n : Int32} (h : jt_vs 2 n) : n = 0 ∨ n = 1 := by
  rcases h with h | ⟨h, _⟩ | ⟨_, h⟩
  · exact absurd h (by decide)
  · exact absurd h (by decide)
  · exact h
theorem jt_vs0 {n : Int32} (h : jt_vs 0 n) : n = 0 := by
  rcases h with h | ⟨_, h⟩ | ⟨h, _⟩
  · exact absurd h (by decide)
  · exact h
  · exact absurd h (by decide)
theorem jt_01 (c : Prop) [Decidable c] : (if c then (1 : Int32) else 0) = 0 ∨ (if c then (1 : Int32) else 0) = 1 := by
  by_cases h : c
  · exact Or.inr (if_pos h)
  · exact Or.inl (if_neg h)
theorem jt_10 (c : Prop) [Decidable c] : (if c then (0 : Int32) else 1) = 0 ∨ (if c then (0 : Int32) else 1) = 1 := by
  by_cases h : c
  · exact Or.inl (if_pos h)
  · exact Or.inr (if_neg h)
theorem jt_or01 {a b : Int32} (ha : a = 0 ∨ a = 1) (hb : b = 0 ∨ b = 1) : a ||| b = 0 ∨ a ||| b = 1 := by
  rcases ha with rfl | rfl <;> rcases hb with rfl | rfl <;> decide
theorem jt_nfl {y z S op : Int32} (hf : ¬ jt_fl op y z S) (ho : op = 4 ∨ op = 5 ∨ op = 6) : (jt_so S y = 1 ∧ jt_so S z = 1) ∨ (op = 4 ∧ jt_so S y = 2 ∧ jt_so S z = 2) :=
  Classical.byContradiction fun hn => hf ⟨ho, fun h => hn (Or.inl h), fun h => hn (Or.inr h)⟩
theorem jt_ex_wf {op x y z S : Int32} {N : Nat → Int32} (h : jt_iok op x y z) (hf : ¬ jt_fl op y z S) (w : jt_wf S N) : jt_wf (jt_eS op x y z S) (jt_eN op x y z S N) := by
  rcases h with ⟨rfl, hx⟩ | ⟨rfl, hx⟩ | ⟨rfl, hx⟩ | ⟨rfl, hx, hy⟩ | ⟨rfl, hx, hy, hz⟩ | ⟨rfl, hx, hy, hz⟩ | ⟨rfl, hx, hy, hz⟩ | ⟨rfl, hx, hy, hz⟩ | ⟨rfl, hx, hy⟩ | ⟨rfl, hx⟩ | ⟨rfl, hx⟩
  · rw [jt_eS_0, jt_eN_0]; exact jt_wf_up w hx (Or.inl rfl)
  · rw [jt_eS_1, jt_eN_1]; exact jt_wf_up w hx (Or.inr (Or.inr ⟨rfl, jt_10 _⟩))
  · rw [jt_eS_2, jt_eN_2]; exact jt_wf_up w hx (Or.inr (Or.inl ⟨rfl, rfl⟩))
  · rw [jt_eS_3, jt_eN_3]; exact jt_wf_up w hx (jt_wf_at w hy)
  · rw [jt_eS_4, jt_eN_4]
    by_cases c : jt_so S y = 1
    · rw [if_pos c, if_pos c]; exact jt_wf_up w hx (Or.inl rfl)
    · rw [if_neg c, if_neg c]
      rcases jt_nfl hf (Or.inl rfl) with ⟨a, _⟩ | ⟨_, a, b⟩
      · exact absurd a c
      · have ya := jt_wf_at w hy
        have zb := jt_wf_at w hz
        rw [a] at ya
        rw [b] at zb
        exact jt_wf_up w hx (Or.inr (Or.inr ⟨rfl, jt_or01 (jt_vs2 ya) (jt_vs2 zb)⟩))
  · rw [jt_eS_5, jt_eN_5]; exact jt_wf_up w hx (Or.inl rfl)
  · rw [jt_eS_6, jt_eN_6]; exact jt_wf_up w hx (Or.inr (Or.inr ⟨rfl, jt_01 _⟩))
  · rw [jt_eS_7, jt_eN_7]; exact jt_wf_up w hx (Or.inr (Or.inr ⟨rfl, jt_01 _⟩))
  · rw [jt_eS_8, jt_eN_8]; exact w
  · rw [jt_eS_9, jt_eN_9]; exact w
  · rw [jt_eS_10, jt_eN_10]; exact w
theorem jt_pl_s {p : Nat} (hp : p < 24) : jt_pl (nI p + 1) := ⟨p + 1, by omega, nI_1 p⟩
theorem jt_pl_t {x : Int32} (h : jt_tg x) : jt_pl x := by
  obtain ⟨a, ha, e⟩ := h
  exact ⟨a, by omega, e⟩
theorem jt_ex_pl {op x y z S : Int32} {p : Nat} {N : Nat → Int32} (hp : p < 24) (h : jt_iok op x y z) : jt_pl (jt_eL op x y (nI p) S N) := by
  rcases h with ⟨rfl, hx⟩ | ⟨rfl, hx⟩ | ⟨rfl, hx⟩ | ⟨rfl, hx, hy⟩ | ⟨rfl, hx, hy, hz⟩ | ⟨rfl, hx, hy, hz⟩ | ⟨rfl, hx, hy, hz⟩ | ⟨rfl, hx, hy, hz⟩ | ⟨rfl, hx, hy⟩ | ⟨rfl, hx⟩ | ⟨rfl, hx⟩
  · rw [jt_eL_0]; exact jt_pl_s hp
  · rw [jt_eL_1]; exact jt_pl_s hp
  · rw [jt_eL_2]; exact jt_pl_s hp
  · rw [jt_eL_3]; exact jt_pl_s hp
  · rw [jt_eL_4]; exact jt_pl_s hp
  · rw [jt_eL_5]; exact jt_pl_s hp
  · rw [jt_eL_6]; exact jt_pl_s hp
  · rw [jt_eL_7]; exact jt_pl_s hp
  · rw [jt_eL_8]
    by_cases c : ¬ jt_so S x = 1 ∧ N x.toNatClampNeg = 0
    · rw [if_pos c]; exact jt_pl_t hy
    · rw [if_neg c]; exact jt_pl_s hp
  · rw [jt_eL_9]; exact jt_pl_t hx
  · rw [jt_eL_10]; exact jt_pl_s hp
theorem jt_pI_ok {pr : Int32} (h : jt_pr pr) : jt_pr (jt_pI pr) := by
  obtain ⟨q, hq, rfl⟩ := h
  unfold jt_pI
  by_cases c : nI q < 2147483647
  · rw [if_pos c]
    have c' := (nI_ltI (a := q) (b := 2147483647) hq (by omega)).mp c
    exact ⟨q + 1, by omega, nI_1 q⟩
  · rw [if_neg c]
    exact ⟨q, hq, rfl⟩
theorem jt_pI_lt {q : Nat} (h : q + 1 < 2 ^ 31) : jt_pI (nI q) = nI (q + 1) := by
  unfold jt_pI
  have c : nI q < 2147483647 := nI_lt (a := q) (b := 2147483647) (by omega) (by omega)
  rw [if_pos c, nI_1]
theorem jt_eP_ok {op pr : Int32} (h : jt_pr pr) : jt_pr (jt_eP op pr) := by
  unfold jt_eP
  by_cases c : op = 10
  · rw [if_pos c]; exact jt_pI_ok h
  · rw [if_neg c]; exact h
theorem jt_sp_ok {P : jt_P} {M M' : jt_M} (hP : jt_Pok P) (ho : jt_ok M) (h : jt_sp P M = .inl M') : jt_ok M' := by
  obtain ⟨ops, xs, ys, zs, sz⟩ := P
  obtain ⟨S, g, pl, ct⟩ := M
  obtain ⟨h1, h2, rfl⟩ := jt_sp_l h
  obtain ⟨w, hp, hr⟩ := ho
  obtain ⟨p, p24, rfl, e, hi⟩ := jt_at hP hp h1
  rw [e] at h2 ⊢
  exact ⟨jt_ex_wf hi h2 w, jt_ex_pl p24 hi, jt_eP_ok hr⟩
def jt_nx (P : jt_P) : Option jt_M → Option jt_M
  | none => none
  | some M => match jt_sp P M with
    | .inl M' => some M'
    | .inr _ => none
def jt_it (P : jt_P) : Nat → jt_M → Option jt_M
  | 0, M => some M
  | j + 1, M => jt_nx P (jt_it P j M)
def jt_rs (P : jt_P) : Nat → jt_M → jt_M × Int32
  | 0, M => (M, 0)
  | n + 1, M => match jt_sp P M with
    | .inl M' => jt_rs P n M'
    | .inr s => (M, s)
theorem jt_nx_l {P : jt_P} {M M' : jt_M} (h : jt_sp P M = .inl M') : jt_nx P (some M) = some M' := by simp only [jt_nx, h]
theorem jt_nx_r {P : jt_P} {M : jt_M} {s : Int32} (h : jt_sp P M = .inr s) : jt_nx P (some M) = none := by simp only [jt_nx, h]
theorem jt_rs_l {P : jt_P} {M M' : jt_M} (n : Nat) (h : jt_sp P M = .inl M') : jt_rs P (n + 1) M = jt_rs P n M' := by simp only [jt_rs, h]
theorem jt_rs_r {P : jt_P} {M : jt_M} {s : Int32} (n : Nat) (h : jt_sp P M = .inr s) : jt_rs P (n + 1) M = (M, s) := by simp only [jt_rs, h]
theorem jt_it_s {P : jt_P} {j : Nat} {M M2 : jt_M} (h : jt_it P (j + 1) M = some M2) : ∃ M1, jt_it P j M = some M1 ∧ jt_sp P M1 = .inl M2 := by
  have h' : jt_nx P (jt_it P j M) = some M2 := h
  cases e : jt_it P j M with
  | none =>
    rw [e] at h'
    have h2 : (none : Option jt_M) = some M2 := h'
    cases h2
  | some M1 =>
    rw [e] at h'
    refine ⟨M1, rfl, ?_⟩
    cases e2 : jt_sp P M1 with
    | inl M3 =>
      rw [jt_nx_l e2] at h'
      cases h'
      rfl
    | inr s =>
      rw [jt_nx_r e2] at h'
      cases h'
theorem jt_it_c {P : jt_P} {j : Nat} {M M1 M2 : jt_M} (h : jt_it P j M = some M1) (h2 : jt_sp P M1 = .inl M2) : jt_it P (j + 1) M = some M2 := by
  show jt_nx P (jt_it P j M) = some M2
  rw [h]
  exact jt_nx_l h2
theorem jt_rs_it {P : jt_P} : ∀ (j n : Nat) (M M' : jt_M), jt_it P j M = some M' → jt_rs P (j + n) M = jt_rs P n M' := by
  intro j
  induction j with
  | zero =>
    intro n M M' h
    cases h
    rw [Nat.zero_add]
  | succ j ih =>
    intro n M M' h
    obtain ⟨M1, h1, h2⟩ := jt_it_s h
    rw [show j + 1 + n = j + (n + 1) from by omega, ih (n + 1) M M1 h1, jt_rs_l n h2]
theorem jt_it_ok {P : jt_P} (hP : jt_Pok P) : ∀ (j : Nat) (M M' : jt_M), jt_ok M → jt_it P j M = some M' → jt_ok M' := by
  intro j
  induction j with
  | zero =>
    intro M M' ho h
    cases h
    exact ho
  | succ j ih =>
    intro M M' ho h
    obtain ⟨M1, h1, h2⟩ := jt_it_s h
    exact jt_sp_ok hP (ih M M1 ho h1) h2
theorem jt_rs_ok {P : jt_P} (hP : jt_Pok P) : ∀ (n : Nat) (M : jt_M), jt_ok M → jt_ok (jt_rs P n M).1 := by
  intro n
  induction n with
  | zero => exact fun M ho => ho
  | succ n ih =>
    intro M ho
    cases e : jt_sp P M with
    | inl M' =>
      rw [jt_rs_l n e]
      exact ih M' (jt_sp_ok hP ho e)
    | inr s =>
      rw [jt_rs_r n e]
      exact ho
theorem jt_it_mono {P P' : jt_P} (hP : jt_Pok P) (hx : ∀ M M', jt_ok M → jt_sp P M = .inl M' → jt_sp P' M = .inl M') : ∀ (j : Nat) (M M' : jt_M), jt_ok M → jt_it P j M = some M' → jt_it P' j M = some M' := by
  intro j
  induction j with
  | zero => exact fun M M' ho h => h
  | succ j ih =>
    intro M M' ho h
    obtain ⟨M1, h1, h2⟩ := jt_it_s h
    exact jt_it_c (ih M M1 ho h1) (hx M1 M' (jt_it_ok hP j M M1 ho h1) h2)
/-- one more instruction at the end: a step that executes stays as it is -/
theorem jt_sp_emit {ops xs ys zs : Nat → Int32} {n : Nat} {op x y z : Int32} (hn : n < 24) : ∀ M M', jt_ok M → jt_sp (ops, xs, ys, zs, nI n) M = .inl M' → jt_sp (upd ops n op, upd xs n x, upd ys n y, upd zs n z, nI (n + 1)) M = .inl M' := by
  intro M M' ho h
  obtain ⟨S, g, pl, ct⟩ := M
  obtain ⟨h1, h2, rfl⟩ := jt_sp_l h
  obtain ⟨w, hp, hr⟩ := ho
  obtain ⟨p, p24, e⟩ := hp
  have e' : pl = nI p := e
  subst e'
  rw [nI_leI (by omega) (by omega)] at h1
  have c : (nI p).toNatClampNeg = p := nI_clamp (by omega)
  have k : p ≠ n := by omega
  have g1 : ¬ nI (n + 1) ≤ nI p := by
    rw [nI_leI (by omega) (by omega)]
    omega
  rw [c] at h2 ⊢
  have h2' : ¬ jt_fl ((upd ops n op) (nI p).toNatClampNeg) ((upd ys n y) (nI p).toNatClampNeg) ((upd zs n z) (nI p).toNatClampNeg) S := by
    rw [c, pk_un k, pk_un k, pk_un k]
    exact h2
  rw [jt_sp_go g1 h2', c, pk_un k, pk_un k, pk_un k, pk_un k]

