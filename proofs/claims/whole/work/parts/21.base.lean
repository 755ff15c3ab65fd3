/-! ===== small numbers ===== -/
theorem zi_in {k n : Nat} (h : k < n) (hn : n < 2 ^ 31) : zv_in (nI k) n = true := by
  unfold zv_in
  rw [nI_clamp (by omega)]
  have := nI_pos (n := k) (by omega)
  simp [this, h]
theorem zi_b1 {s k : Nat} (hs : s < 32) (hk : k < 5) : ((nI s >>> (nI k &&& 31)) &&& 1) = nI (s / 2 ^ k % 2) := by
  have key : ∀ s, s < 32 → ∀ k, k < 5 → ((nI s >>> (nI k &&& 31)) &&& 1) = nI (s / 2 ^ k % 2) := by decide +kernel
  exact key s hs k hk
theorem zi_sh {k : Nat} (hk : k < 5) : ((1 : Int32) <<< (nI k &&& 31)) = nI (2 ^ k) := by
  have key : ∀ k, k < 5 → ((1 : Int32) <<< (nI k &&& 31)) = nI (2 ^ k) := by decide +kernel
  exact key k hk
/-- of a set of exits those with the least key: one exit more -/
def zf_sm1 (s : Int32) (ky : Nat → Int32) (q : Int32 × Int32) (k : Nat) : Int32 × Int32 :=
  if ((s >>> (nI k &&& 31)) &&& 1) = 1 then (if q.1 = 0 ∨ ky k < q.2 then ((1 : Int32) <<< (nI k &&& 31), ky k) else if ky k = q.2 then (q.1 ||| ((1 : Int32) <<< (nI k &&& 31)), q.2) else q) else q
def zf_sm (s : Int32) (ky : Nat → Int32) : Int32 := (zf_sm1 s ky (zf_sm1 s ky (zf_sm1 s ky (zf_sm1 s ky (0, 0) 0) 1) 2) 3).1
theorem zx_sm_c14_1 (ca : zv_Ca) (g : Nat → Nat → Int32) (h : Nat → Nat → Int64) (s : Int32) (q : Int32 × Int32) (k : Nat) (hk : k < 4) :
    zv_m zt_X6_smallest ca false 7 [some (.int s), some (.ref 14), some (.int q.1), some (.int q.2), some (.int (nI k))] [] zS0 (g, h) = zv_m zt_X6_smallest ca false 7 [some (.int s), some (.ref 14), some (.int (zf_sm1 s (g 14) q k).1), some (.int (zf_sm1 s (g 14) q k).2), some (.int (nI (k + 1)))] [] zS0 (g, h) := by
  rw [zd_X6_smallest_c14_7]
  have h4 : ¬ (4 : Int32) ≤ nI k := nI_ge hk (by decide)
  have h4' : ¬ (Int32.ofNat 4) ≤ nI k := nI_ge hk (by decide)
  rw [if_neg h4, if_neg h4', zi_in hk (by decide), nI_clamp (by omega), nI_1]
  unfold zf_sm1
  by_cases h1 : ((s >>> (nI k &&& 31)) &&& 1) = 1
  · by_cases h2 : q.1 = 0
    · simp [h1, h2]
    · by_cases h3 : q.2 ≤ g 14 k
      · have h3' : ¬ g 14 k < q.2 := Int32.not_lt.mpr h3
        by_cases h5 : g 14 k = q.2
        · simp [h1, h2, h5]
        · simp [h1, h2, h3, h3', h5]
      · have h3' : g 14 k < q.2 := Int32.not_le.mp h3
        simp [h1, h2, h3, h3']
  · simp [h1]
