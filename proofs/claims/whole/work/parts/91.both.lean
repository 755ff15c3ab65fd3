/-! ===== the two objects ===== -/
def zT_0 : zT := (1, 0, fun _ => 0, fun _ => 0, fun _ => 0, fun _ => 0)
def zX_0 : zX := (fun _ => 0, fun _ => 0, 0, 0, 0)
theorem zT_0_ok : zT_ok zT_0 := ⟨by decide, by decide, by decide, fun _ => Nat.zero_le _, fun _ _ _ _ _ => rfl, fun _ _ _ _ h => absurd rfl h, fun _ => Nat.succ_pos 4, fun e h => absurd h (Nat.not_lt_zero e), fun _ => Nat.zero_le _, fun _ => Nat.zero_le _⟩
theorem zX_0_ok : zX_ok zT_0 zX_0 := ⟨fun _ => Nat.zero_le _, fun _ _ _ _ _ => rfl, fun _ _ _ _ => rfl, fun _ => Nat.zero_le _, by decide, by decide, by decide⟩
theorem zD_in_z : zD_z 0 zD_in := fun _ _ => ⟨rfl, rfl⟩
set_option maxRecDepth 20000 in
theorem zj_0 {xs : Nat × (Nat → Int32)} {d : Nat} : ∃ g', (∀ x, x ≠ 9 → x ≠ 21 → x ≠ 22 → x ≠ 23 → x ≠ 32 → x ≠ 33 → x ≠ 34 → g' x = fun _ => 0) ∧ (∀ k, g' 9 k = if k = 0 then 1 else 0) ∧ (∀ i j, i < 5 → j < 5 → g' 22 (5 * i + j) = nI (za_di (zX_co zX_0) i j)) ∧ (∀ i, i < 5 → g' 21 i = nI (zf_set (za_nr zT_0 zX_0 i))) ∧ (∀ k, k < 80 → g' 23 k = -2) ∧ zv_ei xs (d + 5) 80 [.ref 0] zq_1 zD_in = some ((0, 0, 0), zq_233, (g', zv_wl zD_in.2 0 10 0)) := by
  have z1 : zD_z 10 (zv_w zD_in.1 9 0 1, zD_in.2) := zD_w (zD_up zD_in_z (by decide)) (by decide)
  obtain ⟨g2, f2, a2, b2, c2, r2⟩ := zj_3 (xs := xs) (d := d) (Dm := (zv_w zD_in.1 9 0 1, zD_in.2)) (T := zT_0) (X := zX_0) (zD_up z1 (by decide)) zT_0_ok rfl (fun e _ => rfl) (fun _ _ => rfl) (fun _ => Nat.zero_le _)
  dsimp only at f2 r2
  have z2 : zD_z 24 (g2, zD_in.2) := zD_g (Dm := (zv_w zD_in.1 9 0 1, zD_in.2)) (zD_up z1 (by decide)) (fun x hx => f2 x (by omega) (by omega) (by omega))
  obtain ⟨g3, f3, a3, b3, c3, r3⟩ := zj_5 (xs := xs) (d := d) (Dm := (g2, zD_in.2)) (T := zT_0) (X := zX_0) (zD_up z2 (by decide)) zT_0_ok (by dsimp only; rw [f2 9 (by decide) (by decide) (by decide)]; rfl) (fun e _ => by dsimp only; rw [f2 12 (by decide) (by decide) (by decide)]; rfl) (fun _ _ => rfl) (fun _ => Nat.zero_le _)
  dsimp only at f3 r3
  have z3 : zD_z 35 (g3, zD_in.2) := zD_g (Dm := (g2, zD_in.2)) (zD_up z2 (by decide)) (fun x hx => f3 x (by omega) (by omega) (by omega))
  refine ⟨g3, fun x h1 h2 h3 h4 h5 h6 h7 => by rw [f3 x h5 h6 h7, f2 x h2 h3 h4, zw_cell _ _ _ h1]; rfl, fun k => ?_, fun i j hi hj => by rw [f3 22 (by decide) (by decide) (by decide)]; exact a2 i j hi hj, fun i hi => by rw [f3 21 (by decide) (by decide) (by decide)]; exact b2 i hi, fun k hk => by rw [f3 23 (by decide) (by decide) (by decide)]; exact c2 k hk, ?_⟩
  · rw [f3 9 (by decide) (by decide) (by decide), f2 9 (by decide) (by decide) (by decide)]
    by_cases hk : k = 0
    · rw [if_pos hk, hk]; exact zw_same _ _ _ _
    · rw [if_neg hk, zw_other _ _ _ hk]; rfl
  have e : zv_z true zt_X8_init (zv_ev (d + 4)) (zv_ei xs (d + 4)) xs false 0 [some (.ref 0), none] [] zq_1 zD_in = some ((0, 0, 0), zq_233, (g3, zv_wl zD_in.2 0 10 0)) := by
    rw [zin_0, zer_id (S := zq_1) zD_in_z (by decide +kernel)]
    rw [zj_1 (d := d + 3) (zD_up zD_in_z (by decide)), Option.bind_some]
    dsimp only
    rw [zin_2, zer_id (S := zq_17) zD_in_z (by decide +kernel)]
    rw [zj_2 (d := d + 3) (zD_up zD_in_z (by decide)), Option.bind_some]
    dsimp only
    rw [zin_4, zer_id (S := zq_31) z1 (by decide +kernel)]
    rw [r2, Option.bind_some]
    dsimp only
    rw [zin_10, zer_id (S := zq_54) z2 (by decide +kernel)]
    rw [r3, Option.bind_some]
    dsimp only
    rw [zin_16, zer_id (S := zq_77) z3 (by decide +kernel)]
    rw [zj_7 (d := d + 3) (zD_up z3 (by decide)), Option.bind_some]
    dsimp only
    rw [zin_18, zer_id (S := zq_81) z3 (by decide +kernel)]
    rw [zj_8 (d := d + 3) (zD_up z3 (by decide)), Option.bind_some]
    dsimp only
    rw [zin_20, zer_id (S := zq_89) z3 (by decide +kernel)]
    rw [zj_9 (d := d + 2) (zD_up z3 (by decide)), Option.bind_some]
    dsimp only
    rw [zin_50, zer_id (S := zq_205) z3 (by decide +kernel), zer_id (S := zq_207) z3 (by decide +kernel)]
    rw [zj_24 (d := d + 3) (zD_up z3 (by decide)), Option.bind_some]
    dsimp only
    rw [zin_52, zer_id (S := zq_215) z3 (by decide +kernel)]
    rw [zj_25 (d := d + 3) (zD_up z3 (by decide)), Option.bind_some]
    dsimp only
    rw [zin_54, zer_id (S := zq_223) z3 (by decide +kernel), zer_id (S := zq_225) z3 (by decide +kernel)]
    rw [zj_26 (d := d + 3) (zD_up z3 (by decide)), Option.bind_some]
    dsimp only
    rw [zin_56]
  show Option.bind (zv_z true zt_X8_init (zv_ev (d + 4)) (zv_ei xs (d + 4)) xs false 0 [some (.ref 0), none] [] zq_1 zD_in) _ = _
  rw [e]
  rfl
set_option maxRecDepth 20000 in
theorem zj_27 {xs : Nat × (Nat → Int32)} {d : Nat} {Dm : zv_D} (hz : zD_z 117 Dm) : ∃ g', (∀ x, x ≠ 119 → g' x = Dm.1 x) ∧ (∀ k, k < 71 → g' 119 k = if k = 0 then 1 else 0) ∧ (∀ k, 71 ≤ k → k < 101 → g' 119 k = -9) ∧ zv_ei xs (d + 2) 128 [.ref 116] zq_234 Dm = some ((0, 0, 0), zq_272, (g', Dm.2)) := by
  obtain ⟨g1, f1, a1, b1, r1⟩ := ev_clear_119 (dp := d) (zv_w Dm.1 119 0 1, Dm.2)
  dsimp only at f1 a1 r1
  refine ⟨g1, fun x hx => (f1 x hx).trans (zw_cell _ _ _ hx), fun k hk => ?_, b1, ?_⟩
  · rw [a1 k hk]
    by_cases h : k = 0
    · rw [if_pos h, h]; exact zw_same _ _ _ _
    · rw [if_neg h, zw_other _ _ _ h, (hz 119 (by decide)).1]
  rw [← zq_272_S] at r1
  have e : zv_z true zt_X9_init (zv_ev (d + 1)) (zv_ei xs (d + 1)) xs false 0 [some (.ref 116)] [] zq_234 Dm = some ((0, 0, 0), zq_272, (g1, Dm.2)) := by
    rw [zin_57, zer_id (S := zq_234) hz (by decide +kernel), zer_id (S := zq_236) hz (by decide +kernel), zer_id (S := zq_238) hz (by decide +kernel), zer_id (S := zq_240) hz (by decide +kernel)]
    rw [zin_58, zer_id (S := zq_242) hz (by decide +kernel), zer_id (S := zq_244) hz (by decide +kernel), zer_id (S := zq_246) hz (by decide +kernel), zer_id (S := zq_248) hz (by decide +kernel)]
    rw [zin_59, zer_id (S := zq_250) hz (by decide +kernel), zer_id (S := zq_252) hz (by decide +kernel), zer_id (S := zq_254) hz (by decide +kernel), zer_id (S := zq_256) hz (by decide +kernel)]
    rw [zin_60, zer_id (S := zq_258) hz (by decide +kernel), zer_id (S := zq_260) hz (by decide +kernel), zer_id (S := zq_262) hz (by decide +kernel), zer_id (S := zq_264) hz (by decide +kernel)]
    rw [zin_61, zer_id (S := zq_266) hz (by decide +kernel), zer_id (S := zq_268) hz (by decide +kernel), zer_id (S := zq_270) hz (by decide +kernel)]
    rw [zin_62]
    rw [r1]
    show zv_z true zt_X9_init (zv_ev (d + 1)) (zv_ei xs (d + 1)) xs false 170 [some (.ref 116)] [] zq_272 (g1, Dm.2) = _
    rw [zin_63]
  show Option.bind (zv_z true zt_X9_init (zv_ev (d + 1)) (zv_ei xs (d + 1)) xs false 0 [some (.ref 116)] [] zq_234 Dm) _ = _
  rw [e]
  rfl
