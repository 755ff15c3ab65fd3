/-! ===== steps ===== -/
def za_ch (T : zT) (X : zX) (A : zA) (i : Nat) : Bool := !(decide (za_de T X A i 0 = A i 0) && decide (za_de T X A i 1 = A i 1))
def za_cn (T : zT) (X : zX) (A : zA) : Nat → Nat
  | 0 => 0
  | k + 1 => za_cn T X A k + (if za_ch T X A k = true then 1 else 0)
theorem za_cn_le (T : zT) (X : zX) (A : zA) (k : Nat) : za_cn T X A k ≤ k := by
  induction k with
  | zero => exact Nat.le_refl _
  | succ k ih =>
    show za_cn T X A k + (if za_ch T X A k = true then 1 else 0) ≤ k + 1
    split <;> omega
theorem za_ch_code {T : zT} {X : zX} {A : zA} {i : Nat} (hT : zT_ok T) (hW : za_W T A) (hi : i < zT_n T) : (nI (za_de T X A i 0 + 2048 * za_de T X A i 1) = nI (A i 0 + 2048 * A i 1)) ↔ za_ch T X A i = false := by
  have a0 := za_R_lt (hW.1 i 0)
  have a1 := za_R_lt (hW.1 i 1)
  have d0 := za_R_lt (za_de_R (X := X) hT hW hi 0)
  have d1 := za_R_lt (za_de_R (X := X) hT hW hi 1)
  rw [nI_eq (by omega) (by omega)]
  unfold za_ch
  simp only [Bool.not_eq_false', Bool.and_eq_true, decide_eq_true_eq]
  omega
theorem zC_X_put {c : Nat} {g : Nat → Nat → Int32} {X : zX} {A A' : zA} (h : zC_X c g X A) {g' : Nat → Nat → Int32} (h0 : g' c = g c) (h1 : g' (c + 1) = g (c + 1)) (h2 : g' (c + 2) = g (c + 2)) (h3 : ∀ j, j < 5 → g' (c + 3) j = nI (A' j 0 + 2048 * A' j 1)) : zC_X c g' X A' := by
  unfold zC_X at h ⊢
  rw [h0, h1, h2]
  exact ⟨h.1, h.2.1, h3, h.2.2.2⟩
theorem ev_stepOne_16 {dp : Nat} {Dm : zv_D} {T : zT} {X : zX} {A : zA} {i : Nat} (hC : zC 16 Dm.1 T X A) (hi : i < zT_n T) :
    ∃ g', zF 16 26 Dm.1 g' ∧ zC 16 g' T X (za_st T X A i) ∧ zv_ev (dp + 5) 56 [.ref 16, .int (nI i)] zS0 Dm = zo_i (if za_ch T X A i = true then 1 else 0) (g', Dm.2) := by
  have hT := hC.1
  have h5 := hT.2.1
  have i5 : i < 5 := by omega
  have hW := hC.2.2.1
  have c8 : ∀ j, j < 5 → Dm.1 20 j = nI (A j 0 + 2048 * A j 1) := hC.2.2.2.2.1.2.2.1
  obtain ⟨g1, f1, hC1, r1⟩ := ev_decide_16 (dp := dp) (Dm := (Dm.1, Dm.2)) hC hi
  dsimp only at f1 r1
  have hst := zd_X6_stepOne_16 (zv_ev (dp + 4)) Dm.1 Dm.2 (nI i)
  rw [ev_hasRouter (dp := dp + 3) (Dm.1, Dm.2) (nI i) hC.2.2.2.1.1 h5, zi_in hi (by omega)] at hst
  simp only [Option.bind_some, cond_true] at hst
  rw [if_neg (by decide), zi_in i5 (by decide), r1, nI_clamp (by omega), c8 i i5] at hst
  simp only [Option.bind_some, cond_true, zw_same] at hst
  have fr : ∀ x, x ≠ 20 → x ≠ 23 → x ≠ 24 → x ≠ 25 → zv_w g1 20 i (nI (za_de T X A i 0 + 2048 * za_de T X A i 1)) x = Dm.1 x := fun x h4 h7 h8 h9 => (zw_cell _ _ _ h4).trans (f1 x h7 h8 h9)
  refine ⟨zv_w g1 20 i (nI (za_de T X A i 0 + 2048 * za_de T X A i 1)), fun x hx => fr x (by omega) (by omega) (by omega) (by omega), ⟨hT, hC.2.1, za_st_W hT hW hi, zC_T_of hC1.2.2.2.1 (fun c h3 h4 => zw_cell _ _ _ (by omega)), zC_X_put hC1.2.2.2.2.1 (zw_cell _ _ _ (by decide)) (zw_cell _ _ _ (by decide)) (zw_cell _ _ _ (by decide)) (fun j hj => ?_), zC_Q_of hC1.2.2.2.2.2 (fun c h3 h4 => zw_cell _ _ _ (by omega))⟩, zs_X6_stepOne_16 (hst.trans ?_)⟩
  · show zv_w g1 20 i _ 20 j = _
    unfold za_st
    by_cases hji : j = i
    · subst hji
      rw [zw_same, if_pos rfl]
    · rw [zw_other _ _ _ hji, if_neg hji, f1 20 (by decide) (by decide) (by decide)]
      exact c8 j hj
  · by_cases hch : za_ch T X A i = true
    · rw [if_neg (fun z => by have := (za_ch_code hT hW hi).mp z; rw [hch] at this; cases this), if_pos hch]
    · rw [if_pos ((za_ch_code hT hW hi).mpr (by simpa using hch)), if_neg hch]
theorem ev_stepAll_16 {dp : Nat} {Dm : zv_D} {T : zT} {X : zX} {A : zA} (hC : zC 16 Dm.1 T X A) :
    ∃ g', zF 16 26 Dm.1 g' ∧ zC 16 g' T X (za_rd T X A) ∧ zv_ev (dp + 5) 57 [.ref 16] zS0 Dm = zo_i (nI (za_cn T X A (zT_n T))) (g', Dm.2) := by
  have hT := hC.1
  have h5 := hT.2.1
  have hW := hC.2.2.1
  have c0 : Dm.1 9 0 = nI (zT_n T) := hC.2.2.2.1.1
  have c8 : ∀ j, j < 5 → Dm.1 20 j = nI (A j 0 + 2048 * A j 1) := hC.2.2.2.2.1.2.2.1
  obtain ⟨g1, ⟨f1, hC1, o1⟩, r1⟩ := zl_up (fun k (g' : Nat → Nat → Int32) => zv_m zt_X6_stepAll (zv_ev (dp + 4)) false 4 [some (.ref 16), some (.int (nI (za_cn T X A k))), some (.int (nI k))] [] zS0 (g', Dm.2)) (zT_n T) (fun k g' => (∀ x, x ≠ 23 → x ≠ 24 → x ≠ 25 → x ≠ 26 → g' x = Dm.1 x) ∧ zC 16 g' T X A ∧ ∀ j, j < k → g' 26 j = nI (za_de T X A j 0 + 2048 * za_de T X A j 1)) (by
    intro k g' hk ⟨hf, hC', ho⟩
    have k5 : k < 5 := by omega
    obtain ⟨g2, f2, hC2, r2⟩ := ev_decide_16 (dp := dp) (Dm := (g', Dm.2)) hC' hk
    dsimp only at f2 r2
    have hst := zd_X6_stepAll_16_4 (zv_ev (dp + 4)) g' Dm.2 (nI (za_cn T X A k)) (nI k)
    rw [hf 9 (by decide) (by decide) (by decide) (by decide), c0, if_neg (nI_ge hk (by omega)), if_neg (zi_ge 5 5 rfl k5 (by decide)), r2, zi_in k5 (by decide), nI_clamp (by omega), nI_1] at hst
    simp only [Option.bind_some, cond_true, zw_same] at hst
    rw [zw_cell _ _ _ (by decide : 20 ≠ 26), f2 20 (by decide) (by decide) (by decide), hf 20 (by decide) (by decide) (by decide) (by decide), c8 k k5] at hst
    refine ⟨zv_w g2 26 k (nI (za_de T X A k 0 + 2048 * za_de T X A k 1)), ⟨fun x h7 h8 h9 h10 => (zw_cell _ _ _ h10).trans ((f2 x h7 h8 h9).trans (hf x h7 h8 h9 h10)), zC_9_16 hC2 (fun x h7 h8 h9 h10 => zw_cell _ _ _ h10) (zC_Q_of hC2.2.2.2.2.2 (fun c h3 h4 => zw_cell _ _ _ (by omega))), fun j hj => ?_⟩, hst.trans ?_⟩
    · by_cases hjk : j = k
      · subst hjk; exact zw_same _ _ _ _
      · rw [zw_other _ _ _ hjk, f2 26 (by decide) (by decide) (by decide)]
        exact ho j (by omega)
    · show _ = zv_m zt_X6_stepAll (zv_ev (dp + 4)) false 4 [some (.ref 16), some (.int (nI (za_cn T X A k + (if za_ch T X A k = true then 1 else 0)))), some (.int (nI (k + 1)))] [] zS0 _
      by_cases hch : za_ch T X A k = true
      · rw [if_neg (fun z => by have := (za_ch_code hT hW hk).mp z; rw [hch] at this; cases this), if_pos hch, nI_1]
      · rw [if_pos ((za_ch_code hT hW hk).mpr (by simpa using hch)), if_neg hch, Int32.add_zero]; all_goals rfl) Dm.1 ⟨fun _ _ _ _ _ => rfl, hC, fun j hj => absurd hj (Nat.not_lt_zero j)⟩
  have hst := zd_X6_stepAll_16_4 (zv_ev (dp + 4)) g1 Dm.2 (nI (za_cn T X A (zT_n T))) (nI (zT_n T))
  rw [f1 9 (by decide) (by decide) (by decide) (by decide), c0, if_pos (nI_le (Nat.le_refl _) (by omega)), if_neg (show ¬ (5 : Int32) < nI (zT_n T) from nI_nlt (a := 5) (b := zT_n T) h5 (by decide)), nI_clamp (by omega)] at hst
  have hok : zv_cok 0 0 (nI (zT_n T)) 5 5 = true := by
    unfold zv_cok
    have e0 : (0 : Int32).toNatClampNeg = 0 := rfl
    rw [e0, nI_clamp (by omega)]
    have := nI_pos (n := zT_n T) (by omega)
    simp [this, h5]
  rw [hok] at hst
  simp only [Bool.and_self, cond_true] at hst
  refine ⟨zv_cp g1 26 20 0 0 (zT_n T), fun x hx => ?_, ⟨hT, hC.2.1, za_rd_W hT hW, zC_T_of hC1.2.2.2.1 (fun c h3 h4 => ?_), zC_X_put hC1.2.2.2.2.1 ?_ ?_ ?_ (fun j hj => ?_), zC_Q_of hC1.2.2.2.2.2 (fun c h3 h4 => ?_)⟩, zs_X6_stepAll_16 ((zd_X6_stepAll_16 _ Dm.1 Dm.2).trans (r1.trans hst))⟩
  · show (if x = 20 then _ else g1 x) = _
    rw [if_neg (by omega)]; exact f1 x (by omega) (by omega) (by omega) (by omega)
  · show (if c = 20 then _ else g1 c) = _
    rw [if_neg (by omega)]
  · exact if_neg (by decide)
  · exact if_neg (by decide)
  · exact if_neg (by decide)
  · show (if 20 = 20 then va_cpy (g1 26) (g1 20) 0 0 (zT_n T) else _) j = _
    rw [if_pos rfl]
    unfold za_rd
    by_cases hjn : j < zT_n T
    · rw [pk_cpy_in (by omega) (by omega), if_pos hjn, Nat.zero_add, Nat.sub_zero]
      exact o1 j hjn
    · rw [pk_cpy_out (by omega), if_neg hjn, f1 20 (by decide) (by decide) (by decide) (by decide)]
      exact c8 j hj
  · show (if c = 20 then _ else g1 c) = _
    rw [if_neg (by omega)]
theorem ev_stepOne_27 {dp : Nat} {Dm : zv_D} {T : zT} {X : zX} {A : zA} {i : Nat} (hC : zC 27 Dm.1 T X A) (hi : i < zT_n T) :
    ∃ g', zF 27 37 Dm.1 g' ∧ zC 27 g' T X (za_st T X A i) ∧ zv_ev (dp + 5) 56 [.ref 27, .int (nI i)] zS0 Dm = zo_i (if za_ch T X A i = true then 1 else 0) (g', Dm.2) := by
  have hT := hC.1
  have h5 := hT.2.1
  have i5 : i < 5 := by omega
  have hW := hC.2.2.1
  have c8 : ∀ j, j < 5 → Dm.1 31 j = nI (A j 0 + 2048 * A j 1) := hC.2.2.2.2.1.2.2.1
  obtain ⟨g1, f1, hC1, r1⟩ := ev_decide_27 (dp := dp) (Dm := (Dm.1, Dm.2)) hC hi
  dsimp only at f1 r1
  have hst := zd_X6_stepOne_27 (zv_ev (dp + 4)) Dm.1 Dm.2 (nI i)
  rw [ev_hasRouter (dp := dp + 3) (Dm.1, Dm.2) (nI i) hC.2.2.2.1.1 h5, zi_in hi (by omega)] at hst
  simp only [Option.bind_some, cond_true] at hst
  rw [if_neg (by decide), zi_in i5 (by decide), r1, nI_clamp (by omega), c8 i i5] at hst
  simp only [Option.bind_some, cond_true, zw_same] at hst
  have fr : ∀ x, x ≠ 31 → x ≠ 34 → x ≠ 35 → x ≠ 36 → zv_w g1 31 i (nI (za_de T X A i 0 + 2048 * za_de T X A i 1)) x = Dm.1 x := fun x h4 h7 h8 h9 => (zw_cell _ _ _ h4).trans (f1 x h7 h8 h9)
  refine ⟨zv_w g1 31 i (nI (za_de T X A i 0 + 2048 * za_de T X A i 1)), fun x hx => fr x (by omega) (by omega) (by omega) (by omega), ⟨hT, hC.2.1, za_st_W hT hW hi, zC_T_of hC1.2.2.2.1 (fun c h3 h4 => zw_cell _ _ _ (by omega)), zC_X_put hC1.2.2.2.2.1 (zw_cell _ _ _ (by decide)) (zw_cell _ _ _ (by decide)) (zw_cell _ _ _ (by decide)) (fun j hj => ?_), zC_Q_of hC1.2.2.2.2.2 (fun c h3 h4 => zw_cell _ _ _ (by omega))⟩, zs_X6_stepOne_27 (hst.trans ?_)⟩
  · show zv_w g1 31 i _ 31 j = _
    unfold za_st
    by_cases hji : j = i
    · subst hji
      rw [zw_same, if_pos rfl]
    · rw [zw_other _ _ _ hji, if_neg hji, f1 31 (by decide) (by decide) (by decide)]
      exact c8 j hj
  · by_cases hch : za_ch T X A i = true
    · rw [if_neg (fun z => by have := (za_ch_code hT hW hi).mp z; rw [hch] at this; cases this), if_pos hch]
    · rw [if_pos ((za_ch_code hT hW hi).mpr (by simpa using hch)), if_neg hch]
theorem ev_stepAll_27 {dp : Nat} {Dm : zv_D} {T : zT} {X : zX} {A : zA} (hC : zC 27 Dm.1 T X A) :
    ∃ g', zF 27 37 Dm.1 g' ∧ zC 27 g' T X (za_rd T X A) ∧ zv_ev (dp + 5) 57 [.ref 27] zS0 Dm = zo_i (nI (za_cn T X A (zT_n T))) (g', Dm.2) := by
  have hT := hC.1
  have h5 := hT.2.1
  have hW := hC.2.2.1
  have c0 : Dm.1 9 0 = nI (zT_n T) := hC.2.2.2.1.1
  have c8 : ∀ j, j < 5 → Dm.1 31 j = nI (A j 0 + 2048 * A j 1) := hC.2.2.2.2.1.2.2.1
  obtain ⟨g1, ⟨f1, hC1, o1⟩, r1⟩ := zl_up (fun k (g' : Nat → Nat → Int32) => zv_m zt_X6_stepAll (zv_ev (dp + 4)) false 4 [some (.ref 27), some (.int (nI (za_cn T X A k))), some (.int (nI k))] [] zS0 (g', Dm.2)) (zT_n T) (fun k g' => (∀ x, x ≠ 34 → x ≠ 35 → x ≠ 36 → x ≠ 37 → g' x = Dm.1 x) ∧ zC 27 g' T X A ∧ ∀ j, j < k → g' 37 j = nI (za_de T X A j 0 + 2048 * za_de T X A j 1)) (by
    intro k g' hk ⟨hf, hC', ho⟩
    have k5 : k < 5 := by omega
    obtain ⟨g2, f2, hC2, r2⟩ := ev_decide_27 (dp := dp) (Dm := (g', Dm.2)) hC' hk
    dsimp only at f2 r2
    have hst := zd_X6_stepAll_27_4 (zv_ev (dp + 4)) g' Dm.2 (nI (za_cn T X A k)) (nI k)
    rw [hf 9 (by decide) (by decide) (by decide) (by decide), c0, if_neg (nI_ge hk (by omega)), if_neg (zi_ge 5 5 rfl k5 (by decide)), r2, zi_in k5 (by decide), nI_clamp (by omega), nI_1] at hst
    simp only [Option.bind_some, cond_true, zw_same] at hst
    rw [zw_cell _ _ _ (by decide : 31 ≠ 37), f2 31 (by decide) (by decide) (by decide), hf 31 (by decide) (by decide) (by decide) (by decide), c8 k k5] at hst
    refine ⟨zv_w g2 37 k (nI (za_de T X A k 0 + 2048 * za_de T X A k 1)), ⟨fun x h7 h8 h9 h10 => (zw_cell _ _ _ h10).trans ((f2 x h7 h8 h9).trans (hf x h7 h8 h9 h10)), zC_9_27 hC2 (fun x h7 h8 h9 h10 => zw_cell _ _ _ h10) (zC_Q_of hC2.2.2.2.2.2 (fun c h3 h4 => zw_cell _ _ _ (by omega))), fun j hj => ?_⟩, hst.trans ?_⟩
    · by_cases hjk : j = k
      · subst hjk; exact zw_same _ _ _ _
      · rw [zw_other _ _ _ hjk, f2 37 (by decide) (by decide) (by decide)]
        exact ho j (by omega)
    · show _ = zv_m zt_X6_stepAll (zv_ev (dp + 4)) false 4 [some (.ref 27), some (.int (nI (za_cn T X A k + (if za_ch T X A k = true then 1 else 0)))), some (.int (nI (k + 1)))] [] zS0 _
      by_cases hch : za_ch T X A k = true
      · rw [if_neg (fun z => by have := (za_ch_code hT hW hk).mp z; rw [hch] at this; cases this), if_pos hch, nI_1]
      · rw [if_pos ((za_ch_code hT hW hk).mpr (by simpa using hch)), if_neg hch, Int32.add_zero]; all_goals rfl) Dm.1 ⟨fun _ _ _ _ _ => rfl, hC, fun j hj => absurd hj (Nat.not_lt_zero j)⟩
  have hst := zd_X6_stepAll_27_4 (zv_ev (dp + 4)) g1 Dm.2 (nI (za_cn T X A (zT_n T))) (nI (zT_n T))
  rw [f1 9 (by decide) (by decide) (by decide) (by decide), c0, if_pos (nI_le (Nat.le_refl _) (by omega)), if_neg (show ¬ (5 : Int32) < nI (zT_n T) from nI_nlt (a := 5) (b := zT_n T) h5 (by decide)), nI_clamp (by omega)] at hst
  have hok : zv_cok 0 0 (nI (zT_n T)) 5 5 = true := by
    unfold zv_cok
    have e0 : (0 : Int32).toNatClampNeg = 0 := rfl
    rw [e0, nI_clamp (by omega)]
    have := nI_pos (n := zT_n T) (by omega)
    simp [this, h5]
  rw [hok] at hst
  simp only [Bool.and_self, cond_true] at hst
  refine ⟨zv_cp g1 37 31 0 0 (zT_n T), fun x hx => ?_, ⟨hT, hC.2.1, za_rd_W hT hW, zC_T_of hC1.2.2.2.1 (fun c h3 h4 => ?_), zC_X_put hC1.2.2.2.2.1 ?_ ?_ ?_ (fun j hj => ?_), zC_Q_of hC1.2.2.2.2.2 (fun c h3 h4 => ?_)⟩, zs_X6_stepAll_27 ((zd_X6_stepAll_27 _ Dm.1 Dm.2).trans (r1.trans hst))⟩
  · show (if x = 31 then _ else g1 x) = _
    rw [if_neg (by omega)]; exact f1 x (by omega) (by omega) (by omega) (by omega)
  · show (if c = 31 then _ else g1 c) = _
    rw [if_neg (by omega)]
  · exact if_neg (by decide)
  · exact if_neg (by decide)
  · exact if_neg (by decide)
  · show (if 31 = 31 then va_cpy (g1 37) (g1 31) 0 0 (zT_n T) else _) j = _
    rw [if_pos rfl]
    unfold za_rd
    by_cases hjn : j < zT_n T
    · rw [pk_cpy_in (by omega) (by omega), if_pos hjn, Nat.zero_add, Nat.sub_zero]
      exact o1 j hjn
    · rw [pk_cpy_out (by omega), if_neg hjn, f1 31 (by decide) (by decide) (by decide) (by decide)]
      exact c8 j hj
  · show (if c = 31 then _ else g1 c) = _
    rw [if_neg (by omega)]
