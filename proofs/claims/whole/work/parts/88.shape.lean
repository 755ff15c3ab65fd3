/-! ===== shapes as trees ===== -/
def zq_st (S : zv_S) (o : Nat × Nat × Nat × Nat) : zv_S := bif Nat.beq o.1 0 then zv_new S o.2.1 o.2.2.1 else zv_rw S o.2.1 o.2.2.1 o.2.2.2
def zq_run : List (Nat × Nat × Nat × Nat) → zv_S
  | [] => zS_in
  | o :: l => zq_st (zq_run l) o
def zq_n : List (Nat × Nat × Nat × Nat) → Nat
  | [] => 0
  | o :: l => bif Nat.beq o.1 0 then zq_n l + 1 else zq_n l
def zq_ck (B : Nat) : List (Nat × Nat × Nat × Nat) → Bool
  | [] => true
  | o :: l => (bif Nat.beq o.1 0 then Nat.blt (zq_n l) B else Nat.blt o.2.1 B && Nat.blt o.2.2.1 32) && zq_ck B l
theorem zq_run_n : ∀ l, (zq_run l).1 = zq_n l := by
  intro l
  induction l with
  | nil => rfl
  | cons o l ih =>
    show (zq_st (zq_run l) o).1 = bif Nat.beq o.1 0 then zq_n l + 1 else zq_n l
    unfold zq_st
    cases Nat.beq o.1 0
    · exact ih
    · show (zq_run l).1 + 1 = zq_n l + 1
      rw [ih]
theorem zq_blt {a b : Nat} (h : Nat.blt a b = true) : a < b := by
  have : a + 1 ≤ b := Nat.le_of_ble_eq_true h
  omega
theorem zq_hi {B : Nat} : ∀ l, zq_ck B l = true → ∀ q, B ≤ q → (zq_run l).2.2.1 q = zS_in.2.2.1 q ∧ ∀ j, (zq_run l).2.2.2 q j = none := by
  intro l
  induction l with
  | nil => exact fun _ _ _ => ⟨rfl, fun _ => rfl⟩
  | cons o l ih =>
    intro h q hq
    have h' : ((bif Nat.beq o.1 0 then Nat.blt (zq_n l) B else Nat.blt o.2.1 B && Nat.blt o.2.2.1 32) && zq_ck B l) = true := h
    obtain ⟨h1, h2⟩ := (Bool.and_eq_true_iff).mp h'
    obtain ⟨i1, i2⟩ := ih h2 q hq
    show (zq_st (zq_run l) o).2.2.1 q = _ ∧ ∀ j, (zq_st (zq_run l) o).2.2.2 q j = none
    unfold zq_st
    cases hb : Nat.beq o.1 0
    · rw [hb] at h1
      have h3 := zq_blt ((Bool.and_eq_true_iff).mp h1).1
      refine ⟨i1, fun j => ?_⟩
      show (if q = o.2.1 then _ else (zq_run l).2.2.2 q) j = none
      rw [if_neg (by omega)]
      exact i2 j
    · rw [hb] at h1
      have h3 := zq_blt h1
      have e : q ≠ (zq_run l).1 := by rw [zq_run_n]; omega
      constructor
      · show (if q = (zq_run l).1 then _ else (zq_run l).2.2.1 q) = _
        rw [if_neg e]
        exact i1
      · intro j
        show (if q = (zq_run l).1 then _ else (zq_run l).2.2.2 q) j = none
        rw [if_neg e]
        exact i2 j
theorem zq_lo {B : Nat} : ∀ l, zq_ck B l = true → ∀ q j, 32 ≤ j → (zq_run l).2.2.2 q j = none := by
  intro l
  induction l with
  | nil => exact fun _ _ _ _ => rfl
  | cons o l ih =>
    intro h q j hj
    have h' : ((bif Nat.beq o.1 0 then Nat.blt (zq_n l) B else Nat.blt o.2.1 B && Nat.blt o.2.2.1 32) && zq_ck B l) = true := h
    obtain ⟨h1, h2⟩ := (Bool.and_eq_true_iff).mp h'
    have i2 := ih h2
    show (zq_st (zq_run l) o).2.2.2 q j = none
    unfold zq_st
    cases hb : Nat.beq o.1 0
    · rw [hb] at h1
      have h3 := zq_blt ((Bool.and_eq_true_iff).mp h1).2
      show (if q = o.2.1 then fun j => if j = o.2.2.1 then some o.2.2.2 else (zq_run l).2.2.2 o.2.1 j else (zq_run l).2.2.2 q) j = none
      by_cases hq : q = o.2.1
      · rw [if_pos hq]
        show (if j = o.2.2.1 then some o.2.2.2 else (zq_run l).2.2.2 o.2.1 j) = none
        rw [if_neg (by omega)]
        exact i2 _ j hj
      · rw [if_neg hq]
        exact i2 q j hj
    · show (if q = (zq_run l).1 then fun _ => none else (zq_run l).2.2.2 q) j = none
      by_cases hq : q = (zq_run l).1
      · rw [if_pos hq]
      · rw [if_neg hq]
        exact i2 q j hj
theorem zq_ext {l : List (Nat × Nat × Nat × Nat)} {S' : zv_S} (B : Nat) (hB : zq_ck B l = true) (h1 : (zq_run l).1 = S'.1) (h2 : (zq_run l).2.1 = S'.2.1) (h3 : ∀ q, q < B → (zq_run l).2.2.1 q = S'.2.2.1 q) (h4 : ∀ q, B ≤ q → S'.2.2.1 q = zS_in.2.2.1 q) (h5 : ∀ q, q < B → ∀ j, j < 32 → (zq_run l).2.2.2 q j = S'.2.2.2 q j) (h6 : ∀ q j, B ≤ q ∨ 32 ≤ j → S'.2.2.2 q j = none) : zq_run l = S' := by
  refine Prod.ext h1 (Prod.ext h2 (Prod.ext (funext fun q => ?_) (funext fun q => funext fun j => ?_)))
  · by_cases h : q < B
    · exact h3 q h
    · rw [(zq_hi l hB q (by omega)).1, h4 q (by omega)]
  · by_cases h : q < B
    · by_cases hj : j < 32
      · exact h5 q h j hj
      · rw [zq_lo l hB q j (by omega), h6 q j (Or.inr (by omega))]
    · rw [(zq_hi l hB q (by omega)).2 j, h6 q j (Or.inl (by omega))]
theorem zq_cb {c : Bool} {A B : Nat → Option Nat} {j : Nat} (hA : A j = none) (hB : B j = none) : (bif c then A else B) j = none := by
  cases c
  · exact hB
  · exact hA
theorem zq_cl {q o : Nat} {A : Nat → Option Nat} {j : Nat} (hA : q = o → A j = none) : (bif Nat.beq q o then A else fun _ => none) j = none := by
  cases h : Nat.beq q o
  · rfl
  · exact hA (Nat.eq_of_beq_eq_true h)
theorem zq_cc {c : Bool} {a b : Option Nat} (ha : a = none) (hb : b = none) : (bif c then a else b) = none := by
  cases c
  · exact hb
  · exact ha
theorem zq_ce {j k : Nat} {a b : Option Nat} (hj : 32 ≤ j) (hk : k < 32) (hb : b = none) : (bif Nat.beq j k then a else b) = none := by
  cases h : Nat.beq j k
  · exact hb
  · have := Nat.eq_of_beq_eq_true h
    omega
theorem zq_ct {j k : Nat} {a : Option Nat} (hj : 32 ≤ j) (hk : k ≤ 32) : (bif Nat.blt j k then a else none) = none := by
  cases h : Nat.blt j k
  · rfl
  · have := zq_blt h
    omega
theorem zk_rf_none {q j : Nat} (h : 136 ≤ q ∨ 32 ≤ j) : zk_rf q j = none := by
  unfold zk_rf
  repeat' first | refine zq_cl (fun e => ?_) | refine zq_cb ?_ ?_
  all_goals
    have hj : 32 ≤ j := by omega
    try dsimp only
    repeat' first | exact rfl | refine zq_ce hj (by decide) ?_ | exact zq_ct hj (by decide) | refine zq_cc ?_ ?_
theorem zk_kd_hi {q : Nat} (h : 136 ≤ q) : zk_kd q = zS_in.2.2.1 q := by
  have e : Nat.blt q 136 = false := by
    cases h' : Nat.blt q 136
    · rfl
    · have := zq_blt h'
      omega
  unfold zk_kd
  rw [e]
  rfl
def zk_r1 : Nat → Nat → Option Nat := fun q => bif Nat.beq q 0 then (fun k => (bif Nat.beq k 0 then some 1 else (bif Nat.beq k 1 then some 9 else none))) else (bif Nat.blt q 27 then zk_rf q else fun _ => none)
def zS1 : zv_S := (27, 426, (fun q => bif Nat.blt q 27 then zk_kd q else zS_in.2.2.1 q), zk_r1)
theorem zq_53_S : zq_53 = zS1 := by
  have e : zq_53 = zq_run [(1, 16, 0, 9), (1, 16, 8, 26), (0, 11, 5, 0), (1, 16, 7, 25), (0, 11, 4, 0), (1, 16, 6, 24), (0, 11, 4, 0), (1, 16, 5, 23), (0, 11, 80, 0), (1, 16, 4, 22), (0, 11, 25, 0), (1, 16, 2, 21), (0, 11, 5, 0), (1, 16, 1, 17), (1, 17, 2, 20), (0, 11, 5, 0), (1, 17, 1, 19), (0, 11, 4, 0), (1, 17, 0, 18), (0, 11, 25, 0), (0, 7, 6, 0), (0, 6, 9, 0), (1, 0, 1, 9), (1, 9, 7, 15), (0, 11, 5, 0), (1, 9, 6, 14), (0, 11, 4, 0), (1, 9, 5, 13), (0, 11, 4, 0), (1, 9, 4, 12), (0, 11, 4, 0), (1, 9, 3, 11), (0, 11, 25, 0), (1, 9, 2, 10), (0, 11, 25, 0), (0, 3, 8, 0), (1, 0, 0, 1), (1, 1, 10, 8), (0, 11, 4, 0), (1, 1, 9, 7), (0, 11, 4, 0), (1, 1, 8, 6), (0, 11, 4, 0), (1, 1, 7, 5), (0, 11, 4, 0), (1, 1, 6, 4), (0, 11, 25, 0), (1, 1, 5, 3), (0, 11, 25, 0), (1, 1, 0, 2), (0, 10, 90, 0), (0, 4, 12, 0), (0, 8, 11, 0)] := rfl
  rw [e]
  refine zq_ext 27 (by decide +kernel) rfl rfl (by decide +kernel) (fun q hq => ?_) (by decide +kernel) (fun q j h => ?_)
  · show (bif Nat.blt q 27 then zk_kd q else zS_in.2.2.1 q) = _
    cases h' : Nat.blt q 27
    · rfl
    · have := zq_blt h'
      omega
  · show zk_r1 q j = none
    unfold zk_r1
    cases hb : Nat.beq q 0
    · show (bif Nat.blt q 27 then zk_rf q else fun _ => none) j = none
      cases h' : Nat.blt q 27
      · rfl
      · have := zq_blt h'
        exact zk_rf_none (Or.inr (by omega))
    · have := Nat.eq_of_beq_eq_true hb
      have hj : 32 ≤ j := by omega
      show (bif Nat.beq j 0 then some 1 else (bif Nat.beq j 1 then some 9 else none)) = none
      repeat' first | exact rfl | refine zq_ce hj (by decide) ?_ | refine zq_cc ?_ ?_
def zk_r2 : Nat → Nat → Option Nat := fun q => bif Nat.beq q 0 then (fun k => (bif Nat.beq k 0 then some 1 else (bif Nat.beq k 1 then some 9 else (bif Nat.beq k 2 then some 16 else none)))) else (bif Nat.blt q 38 then zk_rf q else fun _ => none)
def zS2 : zv_S := (38, 598, (fun q => bif Nat.blt q 38 then zk_kd q else zS_in.2.2.1 q), zk_r2)
theorem zq_76_S : zq_76 = zS2 := by
  have e : zq_76 = zq_run [(1, 27, 0, 9), (1, 27, 8, 37), (0, 11, 5, 0), (1, 27, 7, 36), (0, 11, 4, 0), (1, 27, 6, 35), (0, 11, 4, 0), (1, 27, 5, 34), (0, 11, 80, 0), (1, 27, 4, 33), (0, 11, 25, 0), (1, 27, 2, 32), (0, 11, 5, 0), (1, 27, 1, 28), (1, 28, 2, 31), (0, 11, 5, 0), (1, 28, 1, 30), (0, 11, 4, 0), (1, 28, 0, 29), (0, 11, 25, 0), (0, 7, 6, 0), (0, 6, 9, 0), (1, 0, 2, 16), (1, 16, 0, 9), (1, 16, 8, 26), (0, 11, 5, 0), (1, 16, 7, 25), (0, 11, 4, 0), (1, 16, 6, 24), (0, 11, 4, 0), (1, 16, 5, 23), (0, 11, 80, 0), (1, 16, 4, 22), (0, 11, 25, 0), (1, 16, 2, 21), (0, 11, 5, 0), (1, 16, 1, 17), (1, 17, 2, 20), (0, 11, 5, 0), (1, 17, 1, 19), (0, 11, 4, 0), (1, 17, 0, 18), (0, 11, 25, 0), (0, 7, 6, 0), (0, 6, 9, 0), (1, 0, 1, 9), (1, 9, 7, 15), (0, 11, 5, 0), (1, 9, 6, 14), (0, 11, 4, 0), (1, 9, 5, 13), (0, 11, 4, 0), (1, 9, 4, 12), (0, 11, 4, 0), (1, 9, 3, 11), (0, 11, 25, 0), (1, 9, 2, 10), (0, 11, 25, 0), (0, 3, 8, 0), (1, 0, 0, 1), (1, 1, 10, 8), (0, 11, 4, 0), (1, 1, 9, 7), (0, 11, 4, 0), (1, 1, 8, 6), (0, 11, 4, 0), (1, 1, 7, 5), (0, 11, 4, 0), (1, 1, 6, 4), (0, 11, 25, 0), (1, 1, 5, 3), (0, 11, 25, 0), (1, 1, 0, 2), (0, 10, 90, 0), (0, 4, 12, 0), (0, 8, 11, 0)] := rfl
  rw [e]
  refine zq_ext 38 (by decide +kernel) rfl rfl (by decide +kernel) (fun q hq => ?_) (by decide +kernel) (fun q j h => ?_)
  · show (bif Nat.blt q 38 then zk_kd q else zS_in.2.2.1 q) = _
    cases h' : Nat.blt q 38
    · rfl
    · have := zq_blt h'
      omega
  · show zk_r2 q j = none
    unfold zk_r2
    cases hb : Nat.beq q 0
    · show (bif Nat.blt q 38 then zk_rf q else fun _ => none) j = none
      cases h' : Nat.blt q 38
      · rfl
      · have := zq_blt h'
        exact zk_rf_none (Or.inr (by omega))
    · have := Nat.eq_of_beq_eq_true hb
      have hj : 32 ≤ j := by omega
      show (bif Nat.beq j 0 then some 1 else (bif Nat.beq j 1 then some 9 else (bif Nat.beq j 2 then some 16 else none))) = none
      repeat' first | exact rfl | refine zq_ce hj (by decide) ?_ | refine zq_cc ?_ ?_
set_option maxRecDepth 20000 in
theorem zq_272_S : zq_272 = zS0 := by
  have e : zq_272 = zq_run [(1, 116, 28, 135), (0, 11, 16, 0), (1, 116, 27, 134), (0, 11, 120, 0), (1, 116, 23, 133), (0, 11, 1830, 0), (1, 116, 22, 132), (0, 11, 30, 0), (1, 116, 21, 131), (0, 11, 6, 0), (1, 116, 20, 130), (0, 11, 4, 0), (1, 116, 19, 129), (0, 11, 4, 0), (1, 116, 18, 128), (0, 11, 25, 0), (1, 116, 16, 127), (0, 11, 6, 0), (1, 116, 15, 126), (0, 11, 6, 0), (1, 116, 14, 125), (0, 11, 6, 0), (1, 116, 12, 124), (0, 12, 2, 0), (1, 116, 11, 123), (0, 11, 202, 0), (1, 116, 9, 122), (0, 11, 1414, 0), (1, 116, 8, 121), (0, 11, 101, 0), (1, 116, 7, 120), (0, 11, 101, 0), (1, 116, 6, 119), (0, 11, 101, 0), (1, 116, 5, 118), (0, 11, 101, 0), (1, 116, 1, 117), (0, 11, 90, 0), (0, 9, 32, 0), (1, 0, 9, 112), (1, 112, 3, 115), (0, 11, 6, 0), (1, 112, 2, 114), (0, 11, 6, 0), (1, 112, 1, 113), (0, 11, 6, 0), (0, 5, 4, 0), (1, 0, 8, 111), (0, 12, 2, 0), (1, 102, 1, 107), (1, 107, 2, 110), (0, 11, 5, 0), (1, 107, 1, 109), (0, 11, 4, 0), (1, 107, 0, 108), (0, 11, 25, 0), (0, 7, 6, 0), (1, 102, 0, 103), (1, 103, 2, 106), (0, 11, 5, 0), (1, 103, 1, 105), (0, 11, 4, 0), (1, 103, 0, 104), (0, 11, 25, 0), (0, 7, 6, 0), (1, 0, 7, 102), (0, 13, 2, 0), (1, 0, 6, 44), (1, 45, 13, 98), (1, 98, 2, 101), (0, 11, 5, 0), (1, 98, 1, 100), (0, 11, 4, 0), (1, 98, 0, 99), (0, 11, 25, 0), (0, 7, 6, 0), (1, 45, 12, 94), (1, 94, 2, 97), (0, 11, 5, 0), (1, 94, 1, 96), (0, 11, 4, 0), (1, 94, 0, 95), (0, 11, 25, 0), (0, 7, 6, 0), (1, 45, 11, 90), (1, 90, 2, 93), (0, 11, 5, 0), (1, 90, 1, 92), (0, 11, 4, 0), (1, 90, 0, 91), (0, 11, 25, 0), (0, 7, 6, 0), (1, 45, 10, 86), (1, 86, 2, 89), (0, 11, 5, 0), (1, 86, 1, 88), (0, 11, 4, 0), (1, 86, 0, 87), (0, 11, 25, 0), (0, 7, 6, 0), (1, 45, 9, 82), (1, 82, 2, 85), (0, 11, 5, 0), (1, 82, 1, 84), (0, 11, 4, 0), (1, 82, 0, 83), (0, 11, 25, 0), (0, 7, 6, 0), (1, 45, 8, 78), (1, 78, 2, 81), (0, 11, 5, 0), (1, 78, 1, 80), (0, 11, 4, 0), (1, 78, 0, 79), (0, 11, 25, 0), (0, 7, 6, 0), (1, 45, 7, 74), (1, 74, 2, 77), (0, 11, 5, 0), (1, 74, 1, 76), (0, 11, 4, 0), (1, 74, 0, 75), (0, 11, 25, 0), (0, 7, 6, 0), (1, 45, 6, 70), (1, 70, 2, 73), (0, 11, 5, 0), (1, 70, 1, 72), (0, 11, 4, 0), (1, 70, 0, 71), (0, 11, 25, 0), (0, 7, 6, 0), (1, 45, 5, 66), (1, 66, 2, 69), (0, 11, 5, 0), (1, 66, 1, 68), (0, 11, 4, 0), (1, 66, 0, 67), (0, 11, 25, 0), (0, 7, 6, 0), (1, 45, 4, 62), (1, 62, 2, 65), (0, 11, 5, 0), (1, 62, 1, 64), (0, 11, 4, 0), (1, 62, 0, 63), (0, 11, 25, 0), (0, 7, 6, 0), (1, 45, 3, 58), (1, 58, 2, 61), (0, 11, 5, 0), (1, 58, 1, 60), (0, 11, 4, 0), (1, 58, 0, 59), (0, 11, 25, 0), (0, 7, 6, 0), (1, 45, 2, 54), (1, 54, 2, 57), (0, 11, 5, 0), (1, 54, 1, 56), (0, 11, 4, 0), (1, 54, 0, 55), (0, 11, 25, 0), (0, 7, 6, 0), (1, 45, 1, 50), (1, 50, 2, 53), (0, 11, 5, 0), (1, 50, 1, 52), (0, 11, 4, 0), (1, 50, 0, 51), (0, 11, 25, 0), (0, 7, 6, 0), (1, 45, 0, 46), (1, 46, 2, 49), (0, 11, 5, 0), (1, 46, 1, 48), (0, 11, 4, 0), (1, 46, 0, 47), (0, 11, 25, 0), (0, 7, 6, 0), (1, 44, 2, 45), (0, 13, 14, 0), (0, 2, 3, 0), (1, 0, 5, 40), (1, 40, 5, 43), (0, 11, 5, 0), (1, 40, 4, 42), (0, 11, 120, 0), (1, 40, 3, 41), (0, 11, 5, 0), (0, 1, 6, 0), (1, 0, 4, 38), (1, 38, 3, 39), (0, 11, 305, 0), (0, 0, 4, 0), (1, 0, 3, 27), (1, 27, 0, 9), (1, 27, 8, 37), (0, 11, 5, 0), (1, 27, 7, 36), (0, 11, 4, 0), (1, 27, 6, 35), (0, 11, 4, 0), (1, 27, 5, 34), (0, 11, 80, 0), (1, 27, 4, 33), (0, 11, 25, 0), (1, 27, 2, 32), (0, 11, 5, 0), (1, 27, 1, 28), (1, 28, 2, 31), (0, 11, 5, 0), (1, 28, 1, 30), (0, 11, 4, 0), (1, 28, 0, 29), (0, 11, 25, 0), (0, 7, 6, 0), (0, 6, 9, 0), (1, 0, 2, 16), (1, 16, 0, 9), (1, 16, 8, 26), (0, 11, 5, 0), (1, 16, 7, 25), (0, 11, 4, 0), (1, 16, 6, 24), (0, 11, 4, 0), (1, 16, 5, 23), (0, 11, 80, 0), (1, 16, 4, 22), (0, 11, 25, 0), (1, 16, 2, 21), (0, 11, 5, 0), (1, 16, 1, 17), (1, 17, 2, 20), (0, 11, 5, 0), (1, 17, 1, 19), (0, 11, 4, 0), (1, 17, 0, 18), (0, 11, 25, 0), (0, 7, 6, 0), (0, 6, 9, 0), (1, 0, 1, 9), (1, 9, 7, 15), (0, 11, 5, 0), (1, 9, 6, 14), (0, 11, 4, 0), (1, 9, 5, 13), (0, 11, 4, 0), (1, 9, 4, 12), (0, 11, 4, 0), (1, 9, 3, 11), (0, 11, 25, 0), (1, 9, 2, 10), (0, 11, 25, 0), (0, 3, 8, 0), (1, 0, 0, 1), (1, 1, 10, 8), (0, 11, 4, 0), (1, 1, 9, 7), (0, 11, 4, 0), (1, 1, 8, 6), (0, 11, 4, 0), (1, 1, 7, 5), (0, 11, 4, 0), (1, 1, 6, 4), (0, 11, 25, 0), (1, 1, 5, 3), (0, 11, 25, 0), (1, 1, 0, 2), (0, 10, 90, 0), (0, 4, 12, 0), (0, 8, 11, 0)] := rfl
  rw [e]
  exact zq_ext 136 (by decide +kernel) rfl rfl (by decide +kernel) (fun q hq => zk_kd_hi hq) (by decide +kernel) (fun q j h => zk_rf_none h)
