/-! ===== small numbers ===== -/
theorem zi_in {k n : Nat} (h : k < n) (hn : n < 2 ^ 31) : zv_in (nI k) n = true := by
  unfold zv_in
  rw [nI_clamp (by omega)]
  have := nI_pos (n := k) (by omega)
  simp [this, h]
theorem zi_inf {k n : Nat} (h : n ≤ k) (hk : k < 2 ^ 31) : zv_in (nI k) n = false := by
  unfold zv_in
  rw [nI_clamp hk]
  have : Nat.blt k n = false := by
    cases hb : Nat.blt k n with
    | false => rfl
    | true => exact absurd (by simpa using hb) (Nat.not_lt.mpr h)
  rw [this, Bool.and_false]
theorem zi_of {a : Int32} {n : Nat} (h : zv_in a n = true) : ∃ k, k < n ∧ a = nI k := by
  unfold zv_in at h
  simp only [Bool.and_eq_true, Bool.not_eq_true', decide_eq_false_iff_not] at h
  obtain ⟨j, hj, rfl⟩ := nI_of h.1
  have h2 : j < n := by
    have := h.2
    rw [nI_clamp hj] at this
    simpa using this
  exact ⟨j, h2, rfl⟩
theorem zi_iff {a : Int32} {n : Nat} (hn : n < 2 ^ 31) : zv_in a n = true ↔ ¬ a < 0 ∧ ¬ nI n ≤ a := by
  constructor
  · intro h
    obtain ⟨k, hk, rfl⟩ := zi_of h
    exact ⟨nI_pos (by omega), nI_ge hk hn⟩
  · rintro ⟨h1, h2⟩
    obtain ⟨j, hj, rfl⟩ := nI_of h1
    exact zi_in (Nat.not_le.mp fun q => h2 ((nI_leI hn hj).mpr q)) hn
theorem zi_no {a : Int32} {n : Nat} (hn : n < 2 ^ 31) (h : zv_in a n = false) : a < 0 ∨ nI n ≤ a := by
  by_cases h1 : a < 0
  · exact Or.inl h1
  · by_cases h2 : nI n ≤ a
    · exact Or.inr h2
    · rw [(zi_iff hn).mpr ⟨h1, h2⟩] at h; cases h
theorem zi_b1 {s k : Nat} (hs : s < 32) (hk : k < 5) : ((nI s >>> (nI k &&& 31)) &&& 1) = nI (s / 2 ^ k % 2) := by
  have key : ∀ s, s < 32 → ∀ k, k < 5 → ((nI s >>> (nI k &&& 31)) &&& 1) = nI (s / 2 ^ k % 2) := by decide +kernel
  exact key s hs k hk
theorem zi_sh {k : Nat} (hk : k < 5) : ((1 : Int32) <<< (nI k &&& 31)) = nI (2 ^ k) := by
  have key : ∀ k, k < 5 → ((1 : Int32) <<< (nI k &&& 31)) = nI (2 ^ k) := by decide +kernel
  exact key k hk
theorem zi_or {a b : Nat} (ha : a < 2048) (hb : b < 2048) : nI a ||| nI b = nI (a ||| b) := by
  have h1 : (a ||| b) < 2048 := Nat.or_lt_two_pow (n := 11) ha hb
  apply Int32.toBitVec_inj.mp
  apply BitVec.eq_of_toNat_eq
  rw [Int32.toBitVec_or, BitVec.toNat_or, pk_tn (by omega), pk_tn (by omega), pk_tn (by omega)]
theorem zi_and {a b : Nat} (ha : a < 2 ^ 31) (hb : b < 2 ^ 31) : nI a &&& nI b = nI (a &&& b) := by
  have h1 : (a &&& b) < 2 ^ 31 := Nat.and_lt_two_pow a hb
  apply Int32.toBitVec_inj.mp
  apply BitVec.eq_of_toNat_eq
  rw [Int32.toBitVec_and, BitVec.toNat_and, pk_tn (by omega), pk_tn (by omega), pk_tn (by omega)]
theorem zi_ne9 {k : Nat} (h : k < 2 ^ 31) : ¬ nI k = -9 := by
  intro e
  have h1 := nI_toInt h
  rw [e] at h1
  have h2 : (-9 : Int32).toInt = -9 := by decide
  omega
theorem zi_ne1 {k : Nat} (h : k < 2 ^ 31) : ¬ nI k = -1 := by
  intro e
  have h1 := nI_toInt h
  rw [e] at h1
  have h2 : (-1 : Int32).toInt = -1 := by decide
  omega
/-! ===== memory ===== -/
theorem zw_same (g : Nat → Nat → Int32) (c i : Nat) (v : Int32) : zv_w g c i v c i = v := by simp [zv_w, upd]
theorem zw_cell (g : Nat → Nat → Int32) {c c' : Nat} (i : Nat) (v : Int32) (h : c' ≠ c) : zv_w g c i v c' = g c' := by simp [zv_w, h]
theorem zw_other (g : Nat → Nat → Int32) (c : Nat) {i j : Nat} (v : Int32) (h : j ≠ i) : zv_w g c i v c j = g c j := by simp [zv_w, upd, h]
theorem zw_at (g : Nat → Nat → Int32) (c i c' j : Nat) (v : Int32) : zv_w g c i v c' j = if c' = c ∧ j = i then v else g c' j := by
  by_cases hc : c' = c
  · subst hc
    by_cases hj : j = i
    · simp [zv_w, upd, hj]
    · simp [zv_w, upd, hj]
  · simp [zv_w, hc]
/-- a literal above a small number -/
theorem zi_ge (b : Nat) (c : Int32) (hc : nI b = c) {k : Nat} (h : k < b) (hb : b < 2 ^ 31) : ¬ c ≤ nI k := hc ▸ nI_ge h hb
theorem zi_le (b : Nat) (c : Int32) (hc : nI b = c) {k : Nat} (h : b ≤ k) (hk : k < 2 ^ 31) : c ≤ nI k := hc ▸ nI_le h hk
abbrev zo_i (v : Int32) (D : zv_D) : Option (zv_R × zv_D) := some ((v, 0, 0), D)
abbrev zo_v (D : zv_D) : Option (zv_R × zv_D) := some ((0, 0, 0), D)
