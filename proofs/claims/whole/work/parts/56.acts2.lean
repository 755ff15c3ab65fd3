theorem zi_u31 {Z : zZ} (ok : zOK Z) : zX_up Z.1.2.1 < 16 ∧ zX_ex Z.1.2.1 < 32 := by
  have h1 := ok.1.2.1.2.2.2.2.1
  have h2 := ok.1.2.1.2.2.2.2.2.1
  have h3 := ok.1.1.2.2.1
  have h4 := ok.1.1.2.1
  have : 2 ^ zT_m Z.1.1 ≤ 2 ^ 4 := Nat.pow_le_pow_right (by decide) h3
  have := zp_31 h4
  omega
theorem go_turn (a : Int32) : zGo 91 174 [.int a] := by
  intro Z ok
  have h4 := ok.1.1.2.2.1
  cases hb : zv_in a (zT_m Z.1.1) with
  | false =>
    refine ⟨(-1, 0, 0), Z, ok, zCl_q fun g h hB => ?_, zMd_q fun g h hB => ?_⟩
    · have hst := zd_X8_turn (zv_ev 10) g h a
      rw [ev_heF (dp := 9) hB hb] at hst
      simp only [Option.bind_some] at hst
      rw [if_pos trivial] at hst
      exact ⟨g, hB.1, fun _ _ => rfl, zs_X8_turn hst⟩
    · have hst := zd_X9_turn (zv_ev 10) g h a
      rw [ev_neF (dp := 8) ok (zBM_0 hB) hb] at hst
      simp only [Option.bind_some] at hst
      rw [if_neg (by decide)] at hst
      exact ⟨_, zN_0 g, zs_X9_turn hst⟩
  | true =>
    obtain ⟨i, hi, rfl⟩ := zi_of hb
    have hu : zX_up Z.1.2.1 ^^^ 2 ^ i < 2 ^ zT_m Z.1.1 := Nat.xor_lt_two_pow ok.1.2.1.2.2.2.2.1 (zp_lt hi)
    refine ⟨((nI (zX_up Z.1.2.1 ^^^ 2 ^ i) >>> (nI i &&& 31)) &&& 1, 0, 0), zZa (zZp Z) (zX_su Z.1.2.1 (zX_up Z.1.2.1 ^^^ 2 ^ i)) Z.1.2.2, zOK_p ok (zX_su_ok ok.1.2.1 hu) ok.1.2.2, fun g h hB => ?_, fun g h hB => ?_⟩
    · obtain ⟨g1, B1, f1, r1⟩ := ev_saveB (dp := 8) ok hB
      obtain ⟨g2, f2, C2, r2⟩ := ev_flipC_16 (dp := 9) (Dm := (g1, h)) (T := Z.1.1) (X := Z.1.2.1) (A := Z.1.2.2) B1.1 hi
      dsimp only at f2 r2
      have hst := zd_X8_turn (zv_ev 10) g h (nI i)
      rw [ev_heT (dp := 9) hB hi] at hst
      simp only [Option.bind_some] at hst
      rw [if_neg (by decide), r1] at hst
      simp only [Option.bind_some] at hst
      rw [r2] at hst
      simp only [Option.bind_some] at hst
      rw [show g2 17 3 = nI (zX_up Z.1.2.1 ^^^ 2 ^ i) from C2.2.2.2.2.1.2.2.2.1] at hst
      exact ⟨g2, h, zBC_a B1 C2 f2, fun x hx => ⟨(f2 x (by omega)).trans (f1 x (by omega)), rfl⟩, zs_X8_turn hst⟩
    · have hB0 := zBM_0 hB
      obtain ⟨g1, B1, f1, r1⟩ := ev_noteB (dp := 9) ok hB0
      have hst := zd_X9_turn (zv_ev 10) g h (nI i)
      rw [ev_neT (dp := 8) ok hB0 hi] at hst
      simp only [Option.bind_some] at hst
      rw [if_pos trivial, r1] at hst
      simp only [Option.bind_some] at hst
      have h31 := zi_u31 ok
      have p31 := zp_31 (show i ≤ 5 by omega)
      rw [show g1 119 2 = nI (zX_up Z.1.2.1) from B1.1.2.2.1, zi_sh (by omega), zi_xor (by omega) (by omega), zw_same] at hst
      refine ⟨_, h, zBM_a B1 (zNa_c (fun x hx => zw_cell _ _ _ (by omega))) (zM_R_up B1.1 (zw_same _ _ _ _) (fun k hk _ => zw_other _ _ _ hk) h4), fun x hx => ⟨(zw_cell _ _ _ (by omega)).trans ((f1 x (by omega) (by omega)).trans (zw_cell _ _ _ (by omega))), rfl⟩, zs_X9_turn hst⟩
theorem go_add (a : Int32) : zGo 93 177 [.int a] := by
  intro Z ok
  cases hb : zv_in a (zT_n Z.1.1) with
  | false =>
    refine ⟨(-1, 0, 0), Z, ok, zCl_q fun g h hB => ?_, zMd_q fun g h hB => ?_⟩
    · have hst := zd_X8_add (zv_ev 10) g h a
      rw [ev_hrF (dp := 9) hB hb] at hst
      simp only [Option.bind_some] at hst
      rw [if_pos trivial] at hst
      exact ⟨g, hB.1, fun _ _ => rfl, zs_X8_add hst⟩
    · have hst := zd_X9_add (zv_ev 10) g h a
      rw [ev_nrF (dp := 8) ok (zBM_0 hB) hb] at hst
      simp only [Option.bind_some] at hst
      rw [if_neg (by decide)] at hst
      exact ⟨_, zN_0 g, zs_X9_add hst⟩
  | true =>
    obtain ⟨i, hi, rfl⟩ := zi_of hb
    have hu : zX_ex Z.1.2.1 ^^^ 2 ^ i < 2 ^ zT_n Z.1.1 := Nat.xor_lt_two_pow ok.1.2.1.2.2.2.2.2.1 (zp_lt hi)
    refine ⟨((nI (zX_ex Z.1.2.1 ^^^ 2 ^ i) >>> (nI i &&& 31)) &&& 1, 0, 0), zZa (zZp Z) (zX_se Z.1.2.1 (zX_ex Z.1.2.1 ^^^ 2 ^ i)) (zA_ad Z.1.2.1 Z.1.2.2 i), zOK_p ok (zX_se_ok ok.1.2.1 hu) (zA_ad_W ok.1.2.2 i), fun g h hB => ?_, fun g h hB => ?_⟩
    · obtain ⟨g1, B1, f1, r1⟩ := ev_saveB (dp := 8) ok hB
      obtain ⟨g2, f2, C2, r2⟩ := ev_extendC_16 (dp := 9) (Dm := (g1, h)) (T := Z.1.1) (X := Z.1.2.1) (A := Z.1.2.2) B1.1 hi
      dsimp only at f2 r2
      have hst := zd_X8_add (zv_ev 10) g h (nI i)
      rw [ev_hrT (dp := 9) hB hi] at hst
      simp only [Option.bind_some] at hst
      rw [if_neg (by decide), r1] at hst
      simp only [Option.bind_some] at hst
      rw [r2] at hst
      simp only [Option.bind_some] at hst
      rw [show g2 17 4 = nI (zX_ex Z.1.2.1 ^^^ 2 ^ i) from C2.2.2.2.2.1.2.2.2.2.1] at hst
      exact ⟨g2, h, zBC_a B1 C2 f2, fun x hx => ⟨(f2 x (by omega)).trans (f1 x (by omega)), rfl⟩, zs_X8_add hst⟩
    · have hB0 := zBM_0 hB
      obtain ⟨g1, B1, f1, r1⟩ := ev_noteB (dp := 9) ok hB0
      obtain ⟨g2, f2, R2, r2⟩ := ev_addOn_119 (dp := 8) (Dm := (g1, h)) (T := Z.1.1) (X := Z.1.2.1) (A := Z.1.2.2) ok.1.1 ok.1.2.1 B1.1 hi
      dsimp only at f2 r2
      have hst := zd_X9_add (zv_ev 10) g h (nI i)
      rw [ev_nrT (dp := 8) ok hB0 hi] at hst
      simp only [Option.bind_some] at hst
      rw [if_pos trivial, r1] at hst
      simp only [Option.bind_some] at hst
      rw [r2] at hst
      simp only [Option.bind_some] at hst
      rw [show g2 119 3 = nI (zX_ex Z.1.2.1 ^^^ 2 ^ i) from R2.2.2.2.1] at hst
      exact ⟨g2, h, zBM_a B1 (zNa_c (fun x hx => f2 x (by omega))) R2, fun x hx => ⟨(f2 x (by omega)).trans ((f1 x (by omega) (by omega)).trans (zw_cell _ _ _ (by omega))), rfl⟩, zs_X9_add hst⟩
theorem go_setMode (a : Int32) : zGo 94 178 [.int a] := by
  intro Z ok
  have h4 := ok.1.1.2.2.1
  rcases zi_rng (a := a) (n := 2) (by decide) 2 rfl with ⟨hb, hx⟩ | ⟨k, hk, rfl, k1, k2, k3, hb⟩
  · refine ⟨(-2, 0, 0), Z, ok, zCl_q fun g h hB => ?_, zMd_q fun g h hB => ?_⟩
    · have hst := zd_X8_setMode (zv_ev 10) g h a
      refine ⟨g, hB.1, fun _ _ => rfl, zs_X8_setMode (hst.trans ?_)⟩
      rcases hx with hx | ⟨hx, hy, _⟩
      · rw [if_pos hx]
      · rw [if_neg hx, if_neg hy]
    · have hst := zd_X9_setMode (zv_ev 10) g h a
      rw [ev_inr (dp := 9) (zv_w g 116 0 0, h) 2 a 2 rfl (by decide), if_neg hb] at hst
      simp only [Option.bind_some] at hst
      rw [if_pos trivial] at hst
      exact ⟨_, zN_0 g, zs_X9_setMode hst⟩
  · refine ⟨(nI (zX_mo Z.1.2.1), 0, 0), zZa (zZp Z) (zX_sm Z.1.2.1 k) Z.1.2.2, zOK_p ok (zX_sm_ok ok.1.2.1 hk) ok.1.2.2, fun g h hB => ?_, fun g h hB => ?_⟩
    · obtain ⟨g1, B1, f1, r1⟩ := ev_saveB (dp := 8) ok hB
      obtain ⟨g2, f2, C2, r2⟩ := ev_changeMode (dp := 6) (Dm := (g1, h)) (T := Z.1.1) (X := Z.1.2.1) (A := Z.1.2.2) B1.1 hk
      dsimp only at f2 r2
      have hst := zd_X8_setMode (zv_ev 10) g h (nI k)
      rw [if_neg k1, if_pos k2, r1] at hst
      simp only [Option.bind_some] at hst
      rw [r2] at hst
      simp only [Option.bind_some] at hst
      rw [show g1 17 5 = nI (zX_mo Z.1.2.1) from B1.1.2.2.2.2.1.2.2.2.2.2] at hst
      exact ⟨g2, h, zBC_a B1 C2 f2, fun x hx => ⟨(f2 x (by omega)).trans (f1 x (by omega)), rfl⟩, zs_X8_setMode hst⟩
    · have hB0 := zBM_0 hB
      obtain ⟨g1, B1, f1, r1⟩ := ev_noteB (dp := 9) ok hB0
      have hst := zd_X9_setMode (zv_ev 10) g h (nI k)
      rw [ev_inr (dp := 9) (zv_w g 116 0 0, h) 2 (nI k) 2 rfl (by decide), if_pos hb] at hst
      simp only [Option.bind_some] at hst
      rw [if_neg (by decide), r1] at hst
      simp only [Option.bind_some] at hst
      rw [show g1 119 4 = nI (zX_mo Z.1.2.1) from B1.1.2.2.2.2.1] at hst
      exact ⟨_, h, zBM_a B1 (zNa_c (fun x hx => zw_cell _ _ _ (by omega))) (zM_R_mo B1.1 (zw_same _ _ _ _) (fun k hk _ => zw_other _ _ _ hk) h4), fun x hx => ⟨(zw_cell _ _ _ (by omega)).trans ((f1 x (by omega) (by omega)).trans (zw_cell _ _ _ (by omega))), rfl⟩, zs_X9_setMode hst⟩
theorem go_weigh (a b : Int32) : zGo 92 175 [.int a, .int b] := by
  intro Z ok
  have h4 := ok.1.1.2.2.1
  cases ha : zv_in a (zT_m Z.1.1) with
  | false =>
    refine ⟨(-1, 0, 0), Z, ok, zCl_q fun g h hB => ?_, zMd_q fun g h hB => ?_⟩
    · have hst := zd_X8_weigh (zv_ev 10) g h a b
      rw [ev_heF (dp := 9) hB ha] at hst
      simp only [Option.bind_some] at hst
      rw [if_pos trivial] at hst
      exact ⟨g, hB.1, fun _ _ => rfl, zs_X8_weigh hst⟩
    · have hst := zd_X9_weigh (zv_ev 10) g h a b
      rw [ev_neF (dp := 8) ok (zBM_0 hB) ha] at hst
      simp only [Option.bind_some] at hst
      rw [if_neg (by decide)] at hst
      exact ⟨_, zN_0 g, zs_X9_weigh hst⟩
  | true =>
    obtain ⟨i, hi, rfl⟩ := zi_of ha
    rcases zi_rng (a := b) (n := 5) (by decide) 5 rfl with ⟨hb, hx⟩ | ⟨k, hk, rfl, k1, k2, k3, hb⟩
    · refine ⟨(-2, 0, 0), Z, ok, zCl_q fun g h hB => ?_, zMd_q fun g h hB => ?_⟩
      · have hst := zd_X8_weigh (zv_ev 10) g h (nI i) b
        rw [ev_heT (dp := 9) hB hi] at hst
        simp only [Option.bind_some] at hst
        rw [if_neg (by decide)] at hst
        refine ⟨g, hB.1, fun _ _ => rfl, zs_X8_weigh (hst.trans ?_)⟩
        rcases hx with hx | ⟨hx, hy, _⟩
        · rw [if_pos hx]
        · rw [if_neg hx, if_neg hy]
      · have hst := zd_X9_weigh (zv_ev 10) g h (nI i) b
        rw [ev_neT (dp := 8) ok (zBM_0 hB) hi] at hst
        simp only [Option.bind_some] at hst
        rw [if_pos trivial, ev_inr (dp := 9) (zv_w g 116 0 0, h) 5 b 5 rfl (by decide), if_neg hb] at hst
        simp only [Option.bind_some] at hst
        rw [if_pos trivial] at hst
        exact ⟨_, zN_0 g, zs_X9_weigh hst⟩
    · refine ⟨(nI (zX_we Z.1.2.1 i), 0, 0), zZa (zZp Z) (zX_sw Z.1.2.1 i k) Z.1.2.2, zOK_p ok (zX_sw_ok ok.1.2.1 hk) ok.1.2.2, fun g h hB => ?_, fun g h hB => ?_⟩
      · obtain ⟨g1, B1, f1, r1⟩ := ev_saveB (dp := 8) ok hB
        obtain ⟨g2, f2, C2, r2⟩ := ev_changeWeight_16 (dp := 6) (Dm := (g1, h)) (T := Z.1.1) (X := Z.1.2.1) (A := Z.1.2.2) (e := i) B1.1 hi hk
        dsimp only at f2 r2
        have hst := zd_X8_weigh (zv_ev 10) g h (nI i) (nI k)
        rw [ev_heT (dp := 9) hB hi] at hst
        simp only [Option.bind_some] at hst
        rw [if_neg (by decide), if_neg k1, if_pos k2, r1] at hst
        simp only [Option.bind_some] at hst
        rw [zi_in (n := 4) (by omega) (by decide), r2, nI_clamp (by omega), cond_true] at hst
        simp only [Option.bind_some] at hst
        rw [show g1 19 i = nI (zX_we Z.1.2.1 i) from B1.1.2.2.2.2.1.2.1 i (by omega)] at hst
        exact ⟨g2, h, zBC_a B1 C2 f2, fun x hx => ⟨(f2 x (by omega)).trans (f1 x (by omega)), rfl⟩, zs_X8_weigh hst⟩
      · have hB0 := zBM_0 hB
        obtain ⟨g1, B1, f1, r1⟩ := ev_noteB (dp := 9) ok hB0
        have hst := zd_X9_weigh (zv_ev 10) g h (nI i) (nI k)
        rw [ev_neT (dp := 8) ok hB0 hi] at hst
        simp only [Option.bind_some] at hst
        rw [if_pos trivial, ev_inr (dp := 9) (zv_w g 116 0 0, h) 5 (nI k) 5 rfl (by decide), if_pos hb] at hst
        simp only [Option.bind_some] at hst
        rw [if_neg (by decide), r1] at hst
        simp only [Option.bind_some] at hst
        have e58 : ((55 : Int32) + ((4 : Int32) * nI i)) + 3 = nI (58 + 4 * i) := by
          rw [show (4 : Int32) = nI 4 from rfl, show (55 : Int32) = nI 55 from rfl, show (3 : Int32) = nI 3 from rfl, pk_mul, nI_add, nI_add]
          exact congrArg nI (by omega)
        rw [show (Value.int 3) = Value.int (nI 3) from rfl, ev_mexitOf_119 (dp := 9) (g1, h) (e := i) (w := 3) (by omega) (by decide), e58, zi_in (n := 101) (by omega) (by decide), nI_clamp (by omega)] at hst
        simp only [Option.bind_some, cond_true] at hst
        rw [show g1 119 (55 + 4 * i + 3) = nI (zX_we Z.1.2.1 i) from (B1.1.2.2.2.2.2.2.2.1 i hi).2.2.2] at hst
        exact ⟨_, h, zBM_a B1 (zNa_c (fun x hx => zw_cell _ _ _ (by omega))) (zM_R_we B1.1 (zw_same _ _ _ _) (fun k hk _ => zw_other _ _ _ hk) h4 (by omega)), fun x hx => ⟨(zw_cell _ _ _ (by omega)).trans ((f1 x (by omega) (by omega)).trans (zw_cell _ _ _ (by omega))), rfl⟩, zs_X9_weigh hst⟩
theorem go_setLink (a b c : Int32) : zGo 90 173 [.int a, .int b, .int c] := by
  intro Z ok
  have h4 := ok.1.1.2.2.1
  have h5 := ok.1.1.2.1
  cases ha : zv_in a (zT_n Z.1.1) with
  | false =>
    refine ⟨(-1, 0, 0), Z, ok, zCl_q fun g h hB => ?_, zMd_q fun g h hB => ?_⟩
    · have hst := zd_X8_setLink (zv_ev 10) g h a b c
      rw [ev_hrF (dp := 9) hB ha] at hst
      simp only [Option.bind_some] at hst
      rw [if_pos trivial] at hst
      exact ⟨g, hB.1, fun _ _ => rfl, zs_X8_setLink hst⟩
    · have hst := zd_X9_setLink (zv_ev 10) g h a b c
      rw [ev_nrF (dp := 8) ok (zBM_0 hB) ha] at hst
      simp only [Option.bind_some] at hst
      rw [if_neg (by decide)] at hst
      exact ⟨_, zN_0 g, zs_X9_setLink hst⟩
  | true =>
  obtain ⟨i, hi, rfl⟩ := zi_of ha
  cases hb : zv_in b (zT_n Z.1.1) with
  | false =>
    refine ⟨(-1, 0, 0), Z, ok, zCl_q fun g h hB => ?_, zMd_q fun g h hB => ?_⟩
    · have hst := zd_X8_setLink (zv_ev 10) g h (nI i) b c
      rw [ev_hrT (dp := 9) hB hi] at hst
      simp only [Option.bind_some] at hst
      rw [if_neg (by decide), ev_hrF (dp := 9) hB hb] at hst
      simp only [Option.bind_some] at hst
      rw [if_pos trivial] at hst
      exact ⟨g, hB.1, fun _ _ => rfl, zs_X8_setLink hst⟩
    · have hst := zd_X9_setLink (zv_ev 10) g h (nI i) b c
      rw [ev_nrT (dp := 8) ok (zBM_0 hB) hi] at hst
      simp only [Option.bind_some] at hst
      rw [if_pos trivial, ev_nrF (dp := 8) ok (zBM_0 hB) hb] at hst
      simp only [Option.bind_some] at hst
      rw [if_neg (by decide)] at hst
      exact ⟨_, zN_0 g, zs_X9_setLink hst⟩
  | true =>
  obtain ⟨j, hj, rfl⟩ := zi_of hb
  have cl : ∀ g h, zBC g h Z → zv_m zt_X8_setLink (zv_ev 10) false 0 [some (.ref 0), some (.int (nI i)), some (.int (nI j)), some (.int c), none] [] zS0 (g, h) = (if nI i = nI j then zv_ri (-2) zS0 (g, h) else (if c < 0 then zv_ri (-2) zS0 (g, h) else (if c ≤ 9 then ((zv_ev 10 17 [.ref 44, .ref 17] zS0 (g, h)).bind fun p8 => ((zv_ev 10 71 [.ref 17, .int (nI i), .int (nI j)] zS0 p8.2).bind fun p9 => ((zv_ev 10 49 [.ref 16, .int (nI i), .int (nI j), .int c] zS0 p9.2).bind fun p10 => zv_ri p9.1.1 zS0 p10.2))) else zv_ri (-2) zS0 (g, h)))) := by
    intro g h hB
    have hst := zd_X8_setLink (zv_ev 10) g h (nI i) (nI j) c
    rw [ev_hrT (dp := 9) hB hi] at hst
    simp only [Option.bind_some] at hst
    rw [if_neg (by decide), ev_hrT (dp := 9) hB hj] at hst
    simp only [Option.bind_some] at hst
    rw [if_neg (by decide)] at hst
    exact hst
  have md : ∀ g h, zBM g h Z → zv_m zt_X9_setLink (zv_ev 10) false 0 [some (.ref 116), some (.int (nI i)), some (.int (nI j)), some (.int c), none] [] zS0 (g, h) = (if nI i = nI j then zv_ri (-2) zS0 (zv_w g 116 0 0, h) else (if zv_in c 10 = true then (zv_ev 10 170 [.ref 116] zS0 (zv_w g 116 0 0, h)).bind fun p8 => zv_ri (p8.2.1 119 (5 + (5 * i + j))) zS0 (zv_w (zv_w p8.2.1 119 (5 + (5 * i + j)) c) 119 (5 + (5 * j + i)) c, p8.2.2) else zv_ri (-2) zS0 (zv_w g 116 0 0, h))) := by
    intro g h hB
    have hst := zd_X9_setLink (zv_ev 10) g h (nI i) (nI j) c
    rw [ev_nrT (dp := 8) ok (zBM_0 hB) hi] at hst
    simp only [Option.bind_some] at hst
    rw [if_pos trivial, ev_nrT (dp := 8) ok (zBM_0 hB) hj] at hst
    simp only [Option.bind_some] at hst
    rw [if_pos trivial, ev_inr (dp := 9) (zv_w g 116 0 0, h) 9 c 9 rfl (by decide)] at hst
    simp only [Option.bind_some] at hst
    refine hst.trans ?_
    by_cases hij : nI i = nI j
    · rw [if_pos hij, if_pos hij]
    rw [if_neg hij, if_neg hij]
    by_cases hc : zv_in c 10 = true
    · rw [if_pos hc, if_pos hc, if_neg (by decide)]
      have key : ∀ o : zv_R × zv_D, ((zv_ev 10 137 [.int 5, .int (nI i), .int (nI j)] zS0 o.2).bind fun p9 => (bif zv_in p9.1.1 101 then ((zv_ev 10 137 [.int 5, .int (nI i), .int (nI j)] zS0 p9.2).bind fun p10 => (bif zv_in p10.1.1 101 then ((zv_ev 10 137 [.int 5, .int (nI j), .int (nI i)] zS0 ((zv_w p10.2.1 119 p10.1.1.toNatClampNeg c), p10.2.2)).bind fun p11 => (bif zv_in p11.1.1 101 then zv_ri (p9.2.1 119 p9.1.1.toNatClampNeg) zS0 ((zv_w p11.2.1 119 p11.1.1.toNatClampNeg c), p11.2.2) else none)) else none)) else none)) = zv_ri (o.2.1 119 (5 + (5 * i + j))) zS0 (zv_w (zv_w o.2.1 119 (5 + (5 * i + j)) c) 119 (5 + (5 * j + i)) c, o.2.2) := by
        intro o
        rw [ev_pair (dp := 9) o.2, zx_05]
        simp only [Option.bind_some]
        rw [ev_pair (dp := 9) o.2, zx_05, zi_in (n := 101) (by omega) (by decide), nI_clamp (by omega)]
        simp only [Option.bind_some, cond_true]
        rw [zi_in (n := 101) (by omega) (by decide), nI_clamp (by omega), ev_pair (dp := 9) (zv_w o.2.1 119 (5 + (5 * i + j)) c, o.2.2), zx_05]
        simp only [Option.bind_some, cond_true]
        rw [zi_in (n := 101) (by omega) (by decide), nI_clamp (by omega), cond_true]
      simp only [key]
    · rw [if_neg hc, if_neg hc, if_pos rfl]
  by_cases hij : i = j
  · refine ⟨(-2, 0, 0), Z, ok, zCl_q fun g h hB => ⟨g, hB.1, fun _ _ => rfl, zs_X8_setLink ((cl g h hB).trans ?_)⟩, zMd_q fun g h hB => ⟨_, zN_0 g, zs_X9_setLink ((md g h hB).trans ?_)⟩⟩
    · rw [if_pos (congrArg nI hij)]
    · rw [if_pos (congrArg nI hij)]
  have hij' : ¬ nI i = nI j := fun z => hij ((nI_eq (by omega) (by omega)).mp z)
  rcases zi_rng (a := c) (n := 9) (by decide) 9 rfl with ⟨hc, hx⟩ | ⟨k, hk, rfl, k1, k2, k3, hc⟩
  · refine ⟨(-2, 0, 0), Z, ok, zCl_q fun g h hB => ⟨g, hB.1, fun _ _ => rfl, zs_X8_setLink ((cl g h hB).trans ?_)⟩, zMd_q fun g h hB => ⟨_, zN_0 g, zs_X9_setLink ((md g h hB).trans ?_)⟩⟩
    · rw [if_neg hij']
      rcases hx with hx | ⟨hx, hy, _⟩
      · rw [if_pos hx]
      · rw [if_neg hx, if_neg hy]
    · rw [if_neg hij', if_neg hc]
  · refine ⟨(nI (zX_co Z.1.2.1 (5 * i + j)), 0, 0), zZa (zZp Z) (zX_sc Z.1.2.1 i j k) Z.1.2.2, zOK_p ok (zX_sc_ok ok.1.2.1 hi hj h5 hij hk) ok.1.2.2, fun g h hB => ?_, fun g h hB => ?_⟩
    · obtain ⟨g1, B1, f1, r1⟩ := ev_saveB (dp := 8) ok hB
      obtain ⟨g2, f2, C2, r2⟩ := ev_changeCost (dp := 6) (Dm := (g1, h)) (T := Z.1.1) (X := Z.1.2.1) (A := Z.1.2.2) B1.1 hi hj hij hk
      dsimp only at f2 r2
      have hst := cl g h hB
      rw [if_neg hij', if_neg k1, if_pos k2, r1] at hst
      simp only [Option.bind_some] at hst
      rw [ev_costOf_17 (dp := 9) (g1, h) (by omega) (by omega)] at hst
      simp only [Option.bind_some] at hst
      rw [r2] at hst
      simp only [Option.bind_some] at hst
      rw [show g1 18 (5 * i + j) = nI (zX_co Z.1.2.1 (5 * i + j)) from B1.1.2.2.2.2.1.1 (5 * i + j) (by omega)] at hst
      exact ⟨g2, h, zBC_a B1 C2 f2, fun x hx => ⟨(f2 x (by omega)).trans (f1 x (by omega)), rfl⟩, zs_X8_setLink hst⟩
    · have hB0 := zBM_0 hB
      obtain ⟨g1, B1, f1, r1⟩ := ev_noteB (dp := 9) ok hB0
      have hst := md g h hB
      rw [if_neg hij', if_pos hc, r1] at hst
      simp only [Option.bind_some] at hst
      rw [show g1 119 (5 + (5 * i + j)) = nI (zX_co Z.1.2.1 (5 * i + j)) from B1.1.2.2.2.2.2.1 (5 * i + j) (by omega)] at hst
      exact ⟨_, h, zBM_a B1 (zNa_c (fun x hx => (zw_cell _ _ _ (by omega)).trans (zw_cell _ _ _ (by omega)))) (zM_R_co B1.1 ((zw_other _ _ _ (by omega)).trans (zw_same _ _ _ _)) (zw_same _ _ _ _) (fun k h1 h2 _ => (zw_other _ _ _ h2).trans (zw_other _ _ _ h1)) h4 (by omega) (by omega)), fun x hx => ⟨(zw_cell _ _ _ (by omega)).trans ((zw_cell _ _ _ (by omega)).trans ((f1 x (by omega) (by omega)).trans (zw_cell _ _ _ (by omega)))), rfl⟩, zs_X9_setLink hst⟩
