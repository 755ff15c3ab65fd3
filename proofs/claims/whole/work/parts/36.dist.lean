/-! ===== distances ===== -/
theorem za_d_0 (co : Nat → Nat) (i j : Nat) : za_d co 0 i j = if i = j then 0 else if 0 < co (5 * i + j) then co (5 * i + j) else 1000 := rfl
theorem za_d_s (co : Nat → Nat) (s i j : Nat) : za_d co (s + 1) i j = min (za_d co s i j) (za_d co s i s + za_d co s s j) := rfl
theorem za_d_le {co : Nat → Nat} (hc : ∀ k, co k ≤ 9) : ∀ s i j, za_d co s i j ≤ 1000 := by
  intro s
  induction s with
  | zero =>
    intro i j
    rw [za_d_0]
    have := hc (5 * i + j)
    split
    · omega
    · split <;> omega
  | succ s ih => intro i j; rw [za_d_s]; have := ih i j; omega
theorem za_d_fin {co : Nat → Nat} (hc : ∀ k, co k ≤ 9) : ∀ s i j, za_d co s i j = 1000 ∨ za_d co s i j ≤ 9 * 2 ^ s := by
  intro s
  induction s with
  | zero =>
    intro i j
    rw [za_d_0]
    have := hc (5 * i + j)
    split
    · right; omega
    · split
      · right; omega
      · left; rfl
  | succ s ih =>
    intro i j
    rw [za_d_s, Nat.pow_succ]
    have h1 := ih i j
    have h2 := ih i s
    have h3 := ih s j
    have h4 := za_d_le hc s i j
    omega
theorem za_d_tri (co : Nat → Nat) : ∀ s o i j, o < s → za_d co s i j ≤ za_d co s i o + za_d co s o j := by
  intro s
  induction s with
  | zero => intro o i j h; exact absurd h (Nat.not_lt_zero o)
  | succ s ih =>
    intro o i j ho
    rw [za_d_s, za_d_s, za_d_s]
    have ss := za_d_self co s s
    by_cases hos : o = s
    · subst hos
      rw [ss]
      omega
    · have ho' : o < s := by omega
      have a1 := ih o i j ho'
      have a2 := ih o i s ho'
      have a3 := ih o s j ho'
      omega
theorem za_d_mono (co : Nat → Nat) : ∀ s t i j, za_d co (s + t) i j ≤ za_d co s i j := by
  intro s t
  induction t with
  | zero => intro i j; exact Nat.le_refl _
  | succ t ih => intro i j; have := ih i j; rw [← Nat.add_assoc, za_d_s]; omega
theorem za_di_mono (co : Nat → Nat) {s : Nat} (hs : s ≤ 5) (i j : Nat) : za_di co i j ≤ za_d co s i j := by
  have := za_d_mono co s (5 - s) i j
  rw [show s + (5 - s) = 5 by omega] at this
  exact this
theorem za_di_self (co : Nat → Nat) (i : Nat) : za_di co i i = 0 := za_d_self co 5 i
theorem za_di_tri (co : Nat → Nat) {k : Nat} (hk : k < 5) (i j : Nat) : za_di co i j ≤ za_di co i k + za_di co k j := za_d_tri co 5 k i j hk
theorem za_di_fin {co : Nat → Nat} (hc : ∀ k, co k ≤ 9) (i j : Nat) : za_di co i j = 1000 ∨ za_di co i j ≤ 288 := za_d_fin hc 5 i j
theorem za_di_link {co : Nat → Nat} {i k : Nat} (h : 0 < co (5 * i + k)) : za_di co i k ≤ co (5 * i + k) := by
  refine Nat.le_trans (za_di_mono co (Nat.zero_le 5) i k) ?_
  rw [za_d_0, if_pos h]
  split <;> omega
theorem za_di_step {co : Nat → Nat} {i k : Nat} (hk : k < 5) (h : 0 < co (5 * i + k)) (j : Nat) : za_di co i j ≤ co (5 * i + k) + za_di co k j := by
  have h1 := za_di_link h
  have h2 := za_di_tri co hk i j
  omega
theorem za_d_back {co : Nat → Nat} (hc : ∀ k, co k ≤ 9) : ∀ s, s ≤ 5 → ∀ i j, j < 5 → i ≠ j → za_d co s i j < 1000 → ∃ k, k < 5 ∧ 0 < co (5 * i + k) ∧ co (5 * i + k) + za_di co k j ≤ za_d co s i j := by
  intro s
  induction s with
  | zero =>
    intro _ i j hj hij hlt
    rw [za_d_0, if_neg hij] at hlt ⊢
    by_cases h : 0 < co (5 * i + j)
    · rw [if_pos h] at hlt ⊢
      exact ⟨j, hj, h, by rw [za_di_self]; exact Nat.le_refl _⟩
    · rw [if_neg h] at hlt
      exact absurd hlt (by decide)
  | succ s ih =>
    intro hs i j hj hij hlt
    rw [za_d_s] at hlt ⊢
    have ih := ih (by omega)
    by_cases hm : za_d co s i j ≤ za_d co s i s + za_d co s s j
    · rw [Nat.min_eq_left hm] at hlt ⊢
      exact ih i j hj hij hlt
    · rw [Nat.min_eq_right (by omega)] at hlt ⊢
      by_cases his : i = s
      · subst his
        rw [za_d_self] at hm
        omega
      · obtain ⟨k, q1, q2, q3⟩ := ih i s (by omega) his (by omega)
        have m1 := za_di_mono co (by omega : s ≤ 5) s j
        have m2 := za_di_tri co (by omega : s < 5) k j
        exact ⟨k, q1, q2, by omega⟩
theorem za_di_back {co : Nat → Nat} (hc : ∀ k, co k ≤ 9) {i j : Nat} (hj : j < 5) (hij : i ≠ j) (h : za_di co i j < 1000) : ∃ k, k < 5 ∧ 0 < co (5 * i + k) ∧ za_di co i j = co (5 * i + k) + za_di co k j := by
  obtain ⟨k, q1, q2, q3⟩ := za_d_back hc 5 (Nat.le_refl _) i j hj hij h
  have := za_di_step q1 q2 j
  exact ⟨k, q1, q2, Nat.le_antisymm this q3⟩
/-- how many are nearer -/
def za_r1 (a x : Nat) : Nat := if a < x then 1 else 0
def za_rk (d : Nat → Nat) (x : Nat) : Nat := za_r1 (d 0) x + za_r1 (d 1) x + za_r1 (d 2) x + za_r1 (d 3) x + za_r1 (d 4) x
theorem za_r1_le {a x y : Nat} (h : x ≤ y) : za_r1 a x ≤ za_r1 a y := by
  unfold za_r1
  by_cases h1 : a < x
  · rw [if_pos h1, if_pos (by omega)]; exact Nat.le_refl _
  · rw [if_neg h1]; exact Nat.zero_le _
theorem za_r1_1 (a x : Nat) : za_r1 a x ≤ 1 := by unfold za_r1; split <;> omega
theorem za_r1_0 {a x : Nat} (h : x ≤ a) : za_r1 a x = 0 := if_neg (by omega)
theorem za_r1_p {a x : Nat} (h : a < x) : za_r1 a x = 1 := if_pos h
theorem za_rk_lt {d : Nat → Nat} {k y : Nat} (hk : k < 5) (h : d k < y) : za_rk d (d k) < za_rk d y := by
  have l0 := za_r1_le (a := d 0) (Nat.le_of_lt h)
  have l1 := za_r1_le (a := d 1) (Nat.le_of_lt h)
  have l2 := za_r1_le (a := d 2) (Nat.le_of_lt h)
  have l3 := za_r1_le (a := d 3) (Nat.le_of_lt h)
  have l4 := za_r1_le (a := d 4) (Nat.le_of_lt h)
  have s0 := za_r1_0 (Nat.le_refl (d k))
  have s1 := za_r1_p h
  unfold za_rk
  have : k = 0 ∨ k = 1 ∨ k = 2 ∨ k = 3 ∨ k = 4 := by omega
  rcases this with rfl | rfl | rfl | rfl | rfl <;> omega
theorem za_rk_n {d : Nat → Nat} {n x : Nat} (hn : n ≤ 5) (h : ∀ k, n ≤ k → k < 5 → x ≤ d k) : za_rk d x ≤ n := by
  have l0 := za_r1_1 (d 0) x
  have l1 := za_r1_1 (d 1) x
  have l2 := za_r1_1 (d 2) x
  have l3 := za_r1_1 (d 3) x
  have l4 := za_r1_1 (d 4) x
  unfold za_rk
  have z : ∀ k, n ≤ k → k < 5 → za_r1 (d k) x = 0 := fun k h1 h2 => za_r1_0 (h k h1 h2)
  have : n = 0 ∨ n = 1 ∨ n = 2 ∨ n = 3 ∨ n = 4 ∨ n = 5 := by omega
  rcases this with rfl | rfl | rfl | rfl | rfl | rfl
  · rw [z 0 (by decide) (by decide), z 1 (by decide) (by decide), z 2 (by decide) (by decide), z 3 (by decide) (by decide), z 4 (by decide) (by decide)]; decide
  · rw [z 1 (by decide) (by decide), z 2 (by decide) (by decide), z 3 (by decide) (by decide), z 4 (by decide) (by decide)]; omega
  · rw [z 2 (by decide) (by decide), z 3 (by decide) (by decide), z 4 (by decide) (by decide)]; omega
  · rw [z 3 (by decide) (by decide), z 4 (by decide) (by decide)]; omega
  · rw [z 4 (by decide) (by decide)]; omega
  · omega
/-- so many links are enough -/
def za_lv (co : Nat → Nat) (j : Nat) : Nat → Nat → Prop
  | 0, i => i = j
  | t + 1, i => i = j ∨ ∃ k, k < 5 ∧ 0 < co (5 * i + k) ∧ za_di co i j = co (5 * i + k) + za_di co k j ∧ za_lv co j t k
theorem za_lv_rk {co : Nat → Nat} (hc : ∀ k, co k ≤ 9) {j : Nat} (hj : j < 5) : ∀ t i, za_di co i j < 1000 → za_rk (fun k => za_di co k j) (za_di co i j) ≤ t → za_lv co j t i := by
  intro t
  induction t with
  | zero =>
    intro i hi hr
    show i = j
    refine Classical.byContradiction fun hij => ?_
    obtain ⟨k, q1, q2, q3⟩ := za_di_back hc hj hij hi
    have := za_rk_lt (d := fun k => za_di co k j) (k := k) (y := za_di co i j) q1 (by show za_di co k j < _; omega)
    omega
  | succ t ih =>
    intro i hi hr
    by_cases hij : i = j
    · exact Or.inl hij
    · obtain ⟨k, q1, q2, q3⟩ := za_di_back hc hj hij hi
      have := za_rk_lt (d := fun k => za_di co k j) (k := k) (y := za_di co i j) q1 (by show za_di co k j < _; omega)
      exact Or.inr ⟨k, q1, q2, q3, ih k (by omega) (by have h2 : za_rk (fun k => za_di co k j) (za_di co k j) < za_rk (fun k => za_di co k j) (za_di co i j) := this; omega)⟩
theorem za_di_out {T : zT} {X : zX} (hX : zX_ok T X) {i j : Nat} (hi : i < 5) (hj : j < 5) (hn : zT_n T ≤ i) (hij : i ≠ j) : za_di (zX_co X) i j = 1000 := by
  rcases za_di_fin hX.1 i j with h | h
  · exact h
  · obtain ⟨k, q1, q2, q3⟩ := za_di_back hX.1 hj hij (by omega)
    rw [hX.2.1 i k hi q1 (Or.inl hn)] at q2
    exact absurd q2 (Nat.lt_irrefl 0)
theorem za_lv_n {T : zT} {X : zX} (hT : zT_ok T) (hX : zX_ok T X) {i j : Nat} (hj : j < zT_n T) (h : za_di (zX_co X) i j < 1000) : za_lv (zX_co X) j (zT_n T) i := by
  have h5 := hT.2.1
  exact za_lv_rk hX.1 (by omega) _ i h (za_rk_n h5 (fun k h1 h2 => by
    show _ ≤ za_di (zX_co X) k j
    rw [za_di_out hX h2 (by omega) h1 (by omega)]; omega))
