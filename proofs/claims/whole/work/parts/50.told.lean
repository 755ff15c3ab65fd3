/-! ===== choices as figures ===== -/
def za_fe (A : zA) (i : Nat) : Nat := if A i 0 = 0 then 9 else zc_e (A i 0)
def za_rn (A : zA) : Nat → Nat
  | 0 => 0
  | k + 1 => 10 * za_rn A k + za_fe A k
theorem za_fe_lt (A : zA) (i : Nat) : za_fe A i ≤ 9 := by
  unfold za_fe
  have := zc_e_lt (A i 0)
  split <;> omega
theorem za_rn_lt (A : zA) : ∀ k, za_rn A k < 10 ^ k := by
  intro k
  induction k with
  | zero => exact Nat.lt_of_lt_of_le (show (0 : Nat) < 1 from by decide) (Nat.le_refl _)
  | succ k ih =>
    show 10 * za_rn A k + za_fe A k < 10 ^ (k + 1)
    have := za_fe_lt A k
    rw [Nat.pow_succ]
    omega
theorem za_rn_5 (A : zA) {k : Nat} (hk : k ≤ 5) : za_rn A k < 100000 := by
  have h1 := za_rn_lt A k
  have : 10 ^ k ≤ 10 ^ 5 := Nat.pow_le_pow_right (by decide) hk
  omega
theorem ev_firstC_16 {dp : Nat} {Dm : zv_D} {T : zT} {X : zX} {A : zA} {i : Nat} (hC : zC 16 Dm.1 T X A) (hi : i < 5) : zv_ev (dp + 2) 76 [.ref 17, .int (nI i)] zS0 Dm = zo_i (if A i 0 = 0 then -1 else nI (zc_e (A i 0))) Dm := by
  have a0 := za_R_lt (hC.2.2.1.1 i 0)
  have a1 := za_R_lt (hC.2.2.1.1 i 1)
  have c8 : Dm.1 20 i = nI (A i 0 + 2048 * A i 1) := hC.2.2.2.2.1.2.2.1 i hi
  rw [ev_firstExit_17 Dm hi, c8, zi_lo (by omega), show (A i 0 + 2048 * A i 1) % 2048 = A i 0 by omega, zi_e a0]
  by_cases h : A i 0 = 0
  · rw [if_pos ((zi_0 (by omega)).mpr h), if_pos h]
  · rw [if_neg (fun z => h ((zi_0 (by omega)).mp z)), if_neg h]
theorem ev_firstC_27 {dp : Nat} {Dm : zv_D} {T : zT} {X : zX} {A : zA} {i : Nat} (hC : zC 27 Dm.1 T X A) (hi : i < 5) : zv_ev (dp + 2) 76 [.ref 28, .int (nI i)] zS0 Dm = zo_i (if A i 0 = 0 then -1 else nI (zc_e (A i 0))) Dm := by
  have a0 := za_R_lt (hC.2.2.1.1 i 0)
  have a1 := za_R_lt (hC.2.2.1.1 i 1)
  have c8 : Dm.1 31 i = nI (A i 0 + 2048 * A i 1) := hC.2.2.2.2.1.2.2.1 i hi
  rw [ev_firstExit_28 Dm hi, c8, zi_lo (by omega), show (A i 0 + 2048 * A i 1) % 2048 = A i 0 by omega, zi_e a0]
  by_cases h : A i 0 = 0
  · rw [if_pos ((zi_0 (by omega)).mpr h), if_pos h]
  · rw [if_neg (fun z => h ((zi_0 (by omega)).mp z)), if_neg h]
theorem ev_restNumber {dp : Nat} {Dm : zv_D} {T : zT} {X : zX} {A : zA} (hC : zC 27 Dm.1 T X A) : zv_ev (dp + 3) 66 [.ref 27] zS0 Dm = zo_i (nI (za_rn A (zT_n T))) Dm := by
  have h5 := hC.1.2.1
  have c0 : Dm.1 9 0 = nI (zT_n T) := hC.2.2.2.1.1
  obtain ⟨u, -, r1⟩ := zl_up (σ := Option Value) (fun k u => zv_m zt_X6_restNumber (zv_ev (dp + 2)) false 4 [some (.ref 27), some (.int (nI (za_rn A k))), some (.int (nI k)), u] [] zS0 (Dm.1, Dm.2)) (zT_n T) (fun _ _ => True) (by
    intro k u hk _
    have hst := zd_X6_restNumber_27_4 (zv_ev (dp + 2)) Dm.1 Dm.2 (nI (za_rn A k)) (nI k) u
    have el := zc_e_lt (A k 0)
    rw [c0, if_neg (nI_ge hk (by omega)), ev_firstC_27 (dp := dp) (Dm := (Dm.1, Dm.2)) hC (by omega : k < 5), nI_1, show (10 : Int32) = nI 10 from rfl, pk_mul] at hst
    simp only [Option.bind_some] at hst
    show ∃ u', True ∧ _ = zv_m zt_X6_restNumber (zv_ev (dp + 2)) false 4 [some (.ref 27), some (.int (nI (10 * za_rn A k + za_fe A k))), some (.int (nI (k + 1))), u'] [] zS0 (Dm.1, Dm.2)
    unfold za_fe
    by_cases h : A k 0 = 0
    · rw [if_pos h, if_pos rfl, show (9 : Int32) = nI 9 from rfl, nI_add, Nat.mul_comm] at hst
      rw [if_pos h]
      exact ⟨_, trivial, hst⟩
    · rw [if_neg h, if_neg (zi_ne1 (by omega)), nI_add, Nat.mul_comm] at hst
      rw [if_neg h]
      exact ⟨_, trivial, hst⟩) none trivial
  refine zs_X6_restNumber_27 ((zd_X6_restNumber_27 _ Dm.1 Dm.2).trans (r1.trans ?_))
  rw [zd_X6_restNumber_27_4, c0, if_pos (nI_le (Nat.le_refl _) (by omega))]
theorem ev_told {dp : Nat} {Dm : zv_D} {T : zT} {X : zX} {A : zA} (hT : zT_ok T) (hR : zM_R (Dm.1 121) T X A) : zv_ev (dp + 2) 189 [.ref 121] zS0 Dm = zo_i (nI (za_rn A (zT_n T))) Dm := by
  have h5 := hT.2.1
  have c0 : Dm.1 121 0 = nI (zT_n T) := hR.1
  obtain ⟨u, -, r1⟩ := zl_up (σ := Option Value) (fun k u => zv_m zt_X9_told (zv_ev (dp + 1)) false 4 [some (.ref 121), some (.int (nI (za_rn A k))), some (.int (nI k)), u] [] zS0 (Dm.1, Dm.2)) (zT_n T) (fun _ _ => True) (by
    intro k u hk _
    have hst := zd_X9_told_p121_4 (zv_ev (dp + 1)) Dm.1 Dm.2 (nI (za_rn A k)) (nI k) u
    have el := zc_e_lt (A k 0)
    have hch := (hR.2.2.2.2.2.2.2.2 k 0 (by omega) (by decide)).1
    rw [c0, if_neg (nI_ge hk (by omega)), show (0 : Int32) = nI 0 from rfl, ev_at (dp := dp) (Dm.1, Dm.2), zx_at, nI_1, show (10 : Int32) = nI 10 from rfl, pk_mul] at hst
    simp only [Option.bind_some] at hst
    rw [zi_in (n := 101) (by omega) (by decide), nI_clamp (by omega), hch, cond_true] at hst
    show ∃ u', True ∧ _ = zv_m zt_X9_told (zv_ev (dp + 1)) false 4 [some (.ref 121), some (.int (nI (10 * za_rn A k + za_fe A k))), some (.int (nI (k + 1))), u'] [] zS0 (Dm.1, Dm.2)
    unfold za_fe
    by_cases h : A k 0 = 0
    · rw [zm_v0 h, if_pos rfl, show (9 : Int32) = nI 9 from rfl, nI_add] at hst
      rw [if_pos h]
      exact ⟨_, trivial, hst⟩
    · rw [zm_v1 h, if_neg (zi_ne9 (by omega)), nI_add] at hst
      rw [if_neg h]
      exact ⟨_, trivial, hst⟩) none trivial
  refine zs_X9_told_p121 ((zd_X9_told_p121 _ Dm.1 Dm.2).trans (r1.trans ?_))
  rw [zd_X9_told_p121_4, c0, if_pos (nI_le (Nat.le_refl _) (by omega))]
