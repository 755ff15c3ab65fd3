/-! ===== orders as numbers ===== -/
def zp_d (n c k : Nat) : Nat := c / n ^ k % n
def zp_p (o : Nat → Nat) : Nat → Option Nat
  | 0 => none
  | p + 1 => if o p ≤ o (p + 1) then some p else zp_p o p
def zp_q (o : Nat → Nat) (p : Nat) : Nat → Nat
  | 0 => 0
  | q + 1 => if q + 1 ≤ p then q + 1 else if o p ≤ o (q + 1) then q + 1 else zp_q o p q
def zp_s (o : Nat → Nat) (i j : Nat) : Nat → Nat := fun k => if k = j then o i else if k = i then o j else o k
def zp_r : Nat → (Nat → Nat) → Nat → Nat → Nat → Nat
  | 0, o, _, _ => o
  | f + 1, o, lo, hi => if hi ≤ lo then o else zp_r f (zp_s o lo hi) (lo + 1) (hi - 1)
def zp_n (n : Nat) (o : Nat → Nat) : Option (Nat → Nat) := match zp_p o (n - 1) with
  | none => none
  | some p => some (zp_r 5 (zp_s o p (zp_q o p (n - 1))) (p + 1) (n - 1))
def zp_k (n : Nat) (L : List Nat) (i : Nat) : Bool := match zp_n n (zp_d n (L.getD i 0)) with
  | none => decide (i + 1 = L.length)
  | some o => decide (i + 1 < L.length) && (List.range n).all fun k => o k == zp_d n (L.getD (i + 1) 0) k
def zp_o (n c : Nat) : Nat → Nat
  | 0 => 0
  | k + 1 => zp_o n c k ||| 2 ^ zp_d n c k
def zp_m (n : Nat) : List Nat := (List.range (n ^ n)).filter fun c => zp_o n c n == 2 ^ n - 1
def zp_L1 : List Nat := [0]
def zp_L2 : List Nat := [2, 1]
def zp_L3 : List Nat := [21, 15, 19, 7, 11, 5]
def zp_L4 : List Nat := [228, 180, 216, 120, 156, 108, 225, 177, 201, 57, 141, 45, 210, 114, 198, 54, 78, 30, 147, 99, 135, 39, 75, 27]
def zp_L5 : List Nat := [2930, 2430, 2830, 1830, 2230, 1730, 2910, 2410, 2710, 1210, 2110, 1110, 2790, 1790, 2690, 1190, 1490, 990, 2170, 1670, 2070, 1070, 1470, 970, 2926, 2426, 2826, 1826, 2226, 1726, 2886, 2386, 2586, 586, 1986, 486, 2766, 1766, 2566, 566, 1366, 366, 2146, 1646, 1946, 446, 1346, 346, 2902, 2402, 2702, 1202, 2102, 1102, 2882, 2382, 2582, 582, 1982, 482, 2642, 1142, 2542, 542, 742, 242, 2022, 1022, 1922, 422, 722, 222, 2778, 1778, 2678, 1178, 1478, 978, 2758, 1758, 2558, 558, 1358, 358, 2638, 1138, 2538, 538, 738, 238, 1398, 898, 1298, 298, 698, 198, 2154, 1654, 2054, 1054, 1454, 954, 2134, 1634, 1934, 434, 1334, 334, 2014, 1014, 1914, 414, 714, 214, 1394, 894, 1294, 294, 694, 194]
def zp_L : Nat → List Nat
  | 1 => zp_L1
  | 2 => zp_L2
  | 3 => zp_L3
  | 4 => zp_L4
  | 5 => zp_L5
  | _ => []
set_option maxRecDepth 20000 in
theorem zp_L_k : ∀ n, n < 6 → 1 ≤ n → ∀ i, i < (zp_L n).length → zp_k n (zp_L n) i = true := by decide +kernel
theorem zp_L_0 : ∀ n, n < 6 → 1 ≤ n → (0 < (zp_L n).length ∧ (zp_L n).length ≤ 120) ∧ ∀ k, k < n → zp_d n ((zp_L n).getD 0 0) k = k := by decide +kernel
set_option maxRecDepth 100000 in
theorem zp_M1 : (zp_L 1).isPerm (zp_m 1) = true := by decide +kernel
set_option maxRecDepth 100000 in
theorem zp_M2 : (zp_L 2).isPerm (zp_m 2) = true := by decide +kernel
set_option maxRecDepth 100000 in
theorem zp_M3 : (zp_L 3).isPerm (zp_m 3) = true := by decide +kernel
set_option maxRecDepth 100000 in
theorem zp_M4 : (zp_L 4).isPerm (zp_m 4) = true := by decide +kernel
set_option maxRecDepth 100000 in
theorem zp_M5 : (zp_L 5).isPerm (zp_m 5) = true := by decide +kernel
theorem zp_perm {n : Nat} (h1 : 1 ≤ n) (h5 : n ≤ 5) : (zp_L n).Perm (zp_m n) := by
  have : n = 1 ∨ n = 2 ∨ n = 3 ∨ n = 4 ∨ n = 5 := by omega
  rcases this with rfl | rfl | rfl | rfl | rfl
  · exact List.isPerm_iff.mp zp_M1
  · exact List.isPerm_iff.mp zp_M2
  · exact List.isPerm_iff.mp zp_M3
  · exact List.isPerm_iff.mp zp_M4
  · exact List.isPerm_iff.mp zp_M5
