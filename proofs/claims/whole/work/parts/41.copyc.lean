theorem zcp_cell (g : Nat → Nat → Int32) {a0 a x : Nat} (n : Nat) (h : x ≠ a) : zv_cp g a0 a 0 0 n x = g x := if_neg h
theorem zcp_in (g : Nat → Nat → Int32) (a0 a : Nat) {n j : Nat} (h : j < n) : zv_cp g a0 a 0 0 n a j = g a0 j := by
  show (if a = a then va_cpy (g a0) (g a) 0 0 n else g a) j = _
  rw [if_pos rfl, pk_cpy_in (by omega) (by omega), Nat.zero_add, Nat.sub_zero]
theorem zcp_out (g : Nat → Nat → Int32) (a0 a : Nat) {n j : Nat} (h : n ≤ j) : zv_cp g a0 a 0 0 n a j = g a j := by
  show (if a = a then va_cpy (g a0) (g a) 0 0 n else g a) j = _
  rw [if_pos rfl, pk_cpy_out (by omega)]
theorem zsc_frame (a b : Nat) (g : Nat → Nat → Int32) {x : Nat} (h : x < a ∨ a + 3 < x) : zv_sc a b g x = g x := by
  unfold zv_sc
  rw [zw_cell _ _ _ (by omega), zw_cell _ _ _ (by omega), zw_cell _ _ _ (by omega), zcp_cell _ _ (by omega), zcp_cell _ _ (by omega), zcp_cell _ _ (by omega)]
theorem zsc_X {a b : Nat} {g : Nat → Nat → Int32} {X : zX} {A : zA} (hab : a + 3 < b ∨ b + 3 < a) (h : zC_X b g X A) : zC_X a (zv_sc a b g) X A := by
  have cb : zv_cp (zv_cp (zv_cp g (b + 1) (a + 1) 0 0 25) (b + 2) (a + 2) 0 0 4) (b + 3) (a + 3) 0 0 5 b = g b := by
    rw [zcp_cell _ _ (by omega), zcp_cell _ _ (by omega), zcp_cell _ _ (by omega)]
  refine ⟨fun k hk => ?_, fun e he => ?_, fun j hj => ?_, ?_, ?_, ?_⟩
  · unfold zv_sc
    rw [zw_cell _ _ _ (by omega), zw_cell _ _ _ (by omega), zw_cell _ _ _ (by omega), zcp_cell _ _ (by omega), zcp_cell _ _ (by omega), zcp_in _ _ _ hk]
    exact h.1 k hk
  · unfold zv_sc
    rw [zw_cell _ _ _ (by omega), zw_cell _ _ _ (by omega), zw_cell _ _ _ (by omega), zcp_cell _ _ (by omega), zcp_in _ _ _ he, zcp_cell _ _ (by omega)]
    exact h.2.1 e he
  · unfold zv_sc
    rw [zw_cell _ _ _ (by omega), zw_cell _ _ _ (by omega), zw_cell _ _ _ (by omega), zcp_in _ _ _ hj, zcp_cell _ _ (by omega), zcp_cell _ _ (by omega)]
    exact h.2.2.1 j hj
  · unfold zv_sc
    rw [zw_other _ _ _ (by decide), zw_other _ _ _ (by decide), zw_same, cb]
    exact h.2.2.2.1
  · unfold zv_sc
    rw [zw_other _ _ _ (by decide), zw_same, zw_cell _ _ _ (by omega), cb]
    exact h.2.2.2.2.1
  · unfold zv_sc
    rw [zw_same, zw_cell _ _ _ (by omega), zw_cell _ _ _ (by omega), cb]
    exact h.2.2.2.2.2
/-- what follows from a state is found anew -/
theorem ev_anew {dp : Nat} {Dm : zv_D} {T : zT} {X : zX} {A : zA} (hT : zT_ok T) (hX : zX_ok T X) (hW : za_W T A) (cT : zC_T Dm.1 T) (cX : zC_X 17 Dm.1 X A) :
    ∃ g1 g', (∀ x, x ≠ 21 → x ≠ 22 → x ≠ 23 → g' x = Dm.1 x) ∧ zC 16 g' T X A ∧ zv_ev (dp + 3) 53 [.ref 16] zS0 Dm = zo_v (g1, Dm.2) ∧ zv_ev (dp + 3) 52 [.ref 16] zS0 (g1, Dm.2) = zo_v (g', Dm.2) := by
  obtain ⟨g1, f1, d1, n1, r1⟩ := ev_measure (dp := dp) (Dm := Dm) (T := T) (X := X) hT cT.2.1 cT.2.2.2.1 (fun k hk => cX.1 k hk) hX.1
  obtain ⟨g2, f2, i2, r2⟩ := ev_forgetPicks_16 (dp := dp + 1) (g1, Dm.2)
  dsimp only at f2 i2 r2
  have fr : ∀ x, x ≠ 21 → x ≠ 22 → x ≠ 23 → g2 x = Dm.1 x := fun x h1 h2 h3 => (f2 x h3).trans (f1 x h1 h2)
  refine ⟨g1, g2, fr, ⟨hT, hX, hW, zC_T_of cT (fun c h1 h2 => fr c (by omega) (by omega) (by omega)), zC_X_of cX (fun c h1 h2 => fr c (by omega) (by omega) (by omega)), fun i j hi hj => ?_, fun i hi => ?_, fun i s hi hs _ => Or.inl ?_⟩, r1, r2⟩
  · show g2 22 (5 * i + j) = _
    rw [f2 22 (by decide)]; exact d1 i j hi hj
  · show g2 21 i = _
    rw [f2 21 (by decide)]; exact n1 i hi
  · exact i2 (16 * i + s) (by omega)
theorem ev_pickless_16 {dp : Nat} {Dm : zv_D} {T : zT} {X X' : zX} {A : zA} (hC : zC 16 Dm.1 T X A) (g1 : Nat → Nat → Int32) (hf : ∀ x, x ≠ 17 → x ≠ 19 → g1 x = Dm.1 x) (hX' : zX_ok T X') (hco : zX_co X' = zX_co X) (cX : zC_X 17 g1 X' A) : ∃ g', (∀ x, x ≠ 17 → x ≠ 19 → x ≠ 23 → g' x = Dm.1 x) ∧ zC 16 g' T X' A ∧ zv_ev (dp + 3) 52 [.ref 16] zS0 (g1, Dm.2) = zo_v (g', Dm.2) := by
  obtain ⟨g2, f2, i2, r2⟩ := ev_forgetPicks_16 (dp := dp + 1) (g1, Dm.2)
  dsimp only at f2 i2 r2
  have hnr : ∀ i, za_nr T X' i = za_nr T X i := by intro i; funext e; unfold za_nr; rw [hco]
  refine ⟨g2, fun x h1 h2 h3 => (f2 x h3).trans (hf x h1 h2), ⟨hC.1, hX', hC.2.2.1, zC_T_of hC.2.2.2.1 (fun c h1 h2 => (f2 c (by omega)).trans (hf c (by omega) (by omega))), zC_X_of cX (fun c h1 h2 => f2 c (by omega)), fun i j hi hj => ?_, fun i hi => ?_, fun i s hi hs _ => Or.inl ?_⟩, r2⟩
  · show g2 22 (5 * i + j) = _
    rw [f2 22 (by decide), hf 22 (by decide) (by decide), hco]; exact hC.2.2.2.2.2.1 i j hi hj
  · show g2 21 i = _
    rw [f2 21 (by decide), hf 21 (by decide) (by decide), hnr]; exact hC.2.2.2.2.2.2.1 i hi
  · exact i2 (16 * i + s) (by omega)
theorem ev_pickless_27 {dp : Nat} {Dm : zv_D} {T : zT} {X X' : zX} {A : zA} (hC : zC 27 Dm.1 T X A) (g1 : Nat → Nat → Int32) (hf : ∀ x, x ≠ 28 → x ≠ 30 → g1 x = Dm.1 x) (hX' : zX_ok T X') (hco : zX_co X' = zX_co X) (cX : zC_X 28 g1 X' A) : ∃ g', (∀ x, x ≠ 28 → x ≠ 30 → x ≠ 34 → g' x = Dm.1 x) ∧ zC 27 g' T X' A ∧ zv_ev (dp + 3) 52 [.ref 27] zS0 (g1, Dm.2) = zo_v (g', Dm.2) := by
  obtain ⟨g2, f2, i2, r2⟩ := ev_forgetPicks_27 (dp := dp + 1) (g1, Dm.2)
  dsimp only at f2 i2 r2
  have hnr : ∀ i, za_nr T X' i = za_nr T X i := by intro i; funext e; unfold za_nr; rw [hco]
  refine ⟨g2, fun x h1 h2 h3 => (f2 x h3).trans (hf x h1 h2), ⟨hC.1, hX', hC.2.2.1, zC_T_of hC.2.2.2.1 (fun c h1 h2 => (f2 c (by omega)).trans (hf c (by omega) (by omega))), zC_X_of cX (fun c h1 h2 => f2 c (by omega)), fun i j hi hj => ?_, fun i hi => ?_, fun i s hi hs _ => Or.inl ?_⟩, r2⟩
  · show g2 33 (5 * i + j) = _
    rw [f2 33 (by decide), hf 33 (by decide) (by decide), hco]; exact hC.2.2.2.2.2.1 i j hi hj
  · show g2 32 i = _
    rw [f2 32 (by decide), hf 32 (by decide) (by decide), hnr]; exact hC.2.2.2.2.2.2.1 i hi
  · exact i2 (16 * i + s) (by omega)
/-- the trial begins as the live one is -/
theorem ev_trial {dp : Nat} {Dm : zv_D} {T : zT} {X : zX} {A : zA} (hC : zC 16 Dm.1 T X A) : ∃ g', zF 28 34 Dm.1 g' ∧ zC 27 g' T X A ∧ zv_ev (dp + 2) 48 [.ref 27, .ref 16] zS0 Dm = zo_v (g', Dm.2) := by
  have e80 : (Int32.ofNat 80).toNatClampNeg = 80 := by decide
  have hok : zv_cok 0 0 (Int32.ofNat 80) 80 80 = true := by decide
  have hst := zd_X6_copyFrom (zv_ev (dp + 1)) Dm.1 Dm.2
  rw [ev_copy_28_17 (dp := dp) (Dm.1, Dm.2), e80, hok] at hst
  simp only [Option.bind_some, Bool.and_self, cond_true] at hst
  have hfr : ∀ x, x < 28 ∨ 34 < x → zv_cp (zv_cp (zv_cp (zv_sc 28 17 Dm.1) 21 32 0 0 5) 22 33 0 0 25) 23 34 0 0 80 x = Dm.1 x := by
    intro x hx
    rw [zcp_cell _ _ (by omega), zcp_cell _ _ (by omega), zcp_cell _ _ (by omega), zsc_frame _ _ _ (by omega)]
  refine ⟨_, hfr, ⟨hC.1, hC.2.1, hC.2.2.1, zC_T_of hC.2.2.2.1 (fun c h1 h2 => hfr c (by omega)), ?_, fun i j hi hj => ?_, fun i hi => ?_, fun i s hi hs hsm => ?_⟩, zs_X6_copyFrom hst⟩
  · refine zC_X_of (zsc_X (a := 28) (b := 17) (g := Dm.1) (by decide) hC.2.2.2.2.1) (fun x h1 h2 => ?_)
    rw [zcp_cell _ _ (by omega), zcp_cell _ _ (by omega), zcp_cell _ _ (by omega)]
  · show zv_cp (zv_cp (zv_cp (zv_sc 28 17 Dm.1) 21 32 0 0 5) 22 33 0 0 25) 23 34 0 0 80 33 (5 * i + j) = _
    rw [zcp_cell _ _ (by decide), zcp_in _ _ _ (by omega), zcp_cell _ _ (by decide), zsc_frame _ _ _ (by decide)]
    exact hC.2.2.2.2.2.1 i j hi hj
  · show zv_cp (zv_cp (zv_cp (zv_sc 28 17 Dm.1) 21 32 0 0 5) 22 33 0 0 25) 23 34 0 0 80 32 i = _
    rw [zcp_cell _ _ (by decide), zcp_cell _ _ (by decide), zcp_in _ _ _ (by omega), zsc_frame _ _ _ (by decide)]
    exact hC.2.2.2.2.2.2.1 i hi
  · show zv_cp (zv_cp (zv_cp (zv_sc 28 17 Dm.1) 21 32 0 0 5) 22 33 0 0 25) 23 34 0 0 80 34 (16 * i + s) = -2 ∨ zv_cp (zv_cp (zv_cp (zv_sc 28 17 Dm.1) 21 32 0 0 5) 22 33 0 0 25) 23 34 0 0 80 34 (16 * i + s) = _
    rw [zcp_in _ _ _ (by omega), zcp_cell _ _ (by decide), zcp_cell _ _ (by decide), zsc_frame _ _ _ (by decide)]
    exact hC.2.2.2.2.2.2.2 i s hi hs hsm
