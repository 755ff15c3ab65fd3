theorem zi_nin {a : Int32} {n : Nat} (hn : n < 2 ^ 31) (hb : ¬ zv_in a n = true) {k : Nat} (hk : k < n) : ¬ a = nI k := fun z => hb (z ▸ zi_in hk hn)
/-- two routers that are not both there -/
theorem go_two {kc km : Nat} {a b : Int32} {As : List Value} {Z : zZ} (ok : zOK Z) (hc1 : ∀ g h, zBC g h Z → zv_in a (zT_n Z.1.1) = false → zv_ev 11 kc (.ref 0 :: As) zS0 (g, h) = zo_i (-1) (g, h)) (hc2 : ∀ g h, zBC g h Z → (∃ i, i < zT_n Z.1.1 ∧ a = nI i) → zv_in b (zT_n Z.1.1) = false → zv_ev 11 kc (.ref 0 :: As) zS0 (g, h) = zo_i (-1) (g, h)) (hm1 : ∀ g h, zBM g h Z → zv_in a (zT_n Z.1.1) = false → zv_ev 11 km (.ref 116 :: As) zS0 (g, h) = zo_i (-1) (zv_w g 116 0 0, h)) (hm2 : ∀ g h, zBM g h Z → (∃ i, i < zT_n Z.1.1 ∧ a = nI i) → zv_in b (zT_n Z.1.1) = false → zv_ev 11 km (.ref 116 :: As) zS0 (g, h) = zo_i (-1) (zv_w g 116 0 0, h)) (H : ∀ i j, i < zT_n Z.1.1 → j < zT_n Z.1.1 → a = nI i → b = nI j → ∃ v Z', zOK Z' ∧ zCl kc As Z v Z' ∧ zMd km As Z v Z') : ∃ v Z', zOK Z' ∧ zCl kc As Z v Z' ∧ zMd km As Z v Z' := by
  cases ha : zv_in a (zT_n Z.1.1) with
  | false => exact ⟨(-1, 0, 0), Z, ok, zCl_q fun g h hB => ⟨g, hB.1, fun _ _ => rfl, hc1 g h hB ha⟩, zMd_q fun g h hB => ⟨_, zN_0 g, hm1 g h hB ha⟩⟩
  | true =>
    obtain ⟨i, hi, ei⟩ := zi_of ha
    cases hb : zv_in b (zT_n Z.1.1) with
    | false => exact ⟨(-1, 0, 0), Z, ok, zCl_q fun g h hB => ⟨g, hB.1, fun _ _ => rfl, hc2 g h hB ⟨i, hi, ei⟩ hb⟩, zMd_q fun g h hB => ⟨_, zN_0 g, hm2 g h hB ⟨i, hi, ei⟩ hb⟩⟩
    | true =>
      obtain ⟨j, hj, ej⟩ := zi_of hb
      exact H i j hi hj ei ej
theorem go_link (a b c : Int32) : zGo 85 152 [.int a, .int b, .int c] := by
  intro Z ok
  have h5 := ok.1.1.2.1
  refine go_two (a := a) (b := b) ok (fun g h hB ha => zs_X8_link ?_) (fun g h hB ha hb => zs_X8_link ?_) (fun g h hB ha => zs_X9_link ?_) (fun g h hB ha hb => zs_X9_link ?_) ?_
  · rw [zd_X8_link, ev_hrF (dp := 9) hB ha]; rfl
  · obtain ⟨i, hi, rfl⟩ := ha
    rw [zd_X8_link, ev_hrT (dp := 9) hB hi]
    simp only [Option.bind_some]
    rw [if_neg (by decide), ev_hrF (dp := 9) hB hb]; rfl
  · rw [zd_X9_link, ev_nrF (dp := 8) ok (zBM_0 hB) ha]; rfl
  · obtain ⟨i, hi, rfl⟩ := ha
    rw [zd_X9_link, ev_nrT (dp := 8) ok (zBM_0 hB) hi]
    simp only [Option.bind_some]
    rw [if_pos trivial, ev_nrF (dp := 8) ok (zBM_0 hB) hb]; rfl
  · rintro i j hi hj rfl rfl
    have hdf := za_di_fin ok.1.2.1.1 i j
    rcases zi_rng (a := c) (n := 1) (by decide) 1 rfl with ⟨hc, hx⟩ | ⟨w, hw, rfl, k1, k2, k3, hc⟩
    · refine ⟨(-2, 0, 0), Z, ok, zCl_q fun g h hB => ?_, zMd_q fun g h hB => ?_⟩
      · have hst := zd_X8_link (zv_ev 10) g h (nI i) (nI j) c
        rw [ev_hrT (dp := 9) hB hi] at hst
        simp only [Option.bind_some] at hst
        rw [if_neg (by decide), ev_hrT (dp := 9) hB hj] at hst
        simp only [Option.bind_some] at hst
        rw [if_neg (by decide)] at hst
        refine ⟨g, hB.1, fun _ _ => rfl, zs_X8_link (hst.trans ?_)⟩
        rcases hx with hx | ⟨hx, hy, _⟩
        · rw [if_pos hx]
        · rw [if_neg hx, if_neg hy]
      · have hst := zd_X9_link (zv_ev 10) g h (nI i) (nI j) c
        rw [ev_nrT (dp := 8) ok (zBM_0 hB) hi] at hst
        simp only [Option.bind_some] at hst
        rw [if_pos trivial, ev_nrT (dp := 8) ok (zBM_0 hB) hj] at hst
        simp only [Option.bind_some] at hst
        rw [if_pos trivial, ev_inr (dp := 9) (zv_w g 116 0 0, h) 1 c 1 rfl (by decide), if_neg hc] at hst
        exact ⟨_, zN_0 g, zs_X9_link hst⟩
    · refine ⟨(if w = 0 then nI (zX_co Z.1.2.1 (5 * i + j)) else if za_di (zX_co Z.1.2.1) i j < 1000 then nI (za_di (zX_co Z.1.2.1) i j) else -9, 0, 0), Z, ok, zCl_q fun g h hB => ?_, zMd_q fun g h hB => ?_⟩
      · have hst := zd_X8_link (zv_ev 10) g h (nI i) (nI j) (nI w)
        rw [ev_hrT (dp := 9) hB hi] at hst
        simp only [Option.bind_some] at hst
        rw [if_neg (by decide), ev_hrT (dp := 9) hB hj] at hst
        simp only [Option.bind_some] at hst
        rw [if_neg (by decide), if_neg k1, if_pos k2, ev_costOf_17 (dp := 9) (g, h) (by omega) (by omega), ev_distance_16 (dp := 9) (g, h) (by omega) (by omega)] at hst
        simp only [Option.bind_some] at hst
        refine ⟨g, hB.1, fun _ _ => rfl, zs_X8_link (hst.trans ?_)⟩
        rw [show g 18 (5 * i + j) = nI (zX_co Z.1.2.1 (5 * i + j)) from hB.1.2.2.2.2.1.1 _ (by omega), show g 22 (5 * i + j) = nI (za_di (zX_co Z.1.2.1) i j) from hB.1.2.2.2.2.2.1 i j (by omega) (by omega)]
        by_cases hw0 : w = 0
        · rw [if_pos ((zi_0 (by omega)).mpr hw0), if_pos hw0]
        · rw [if_neg (fun z => hw0 ((zi_0 (by omega)).mp z)), if_neg hw0]
          by_cases hd : za_di (zX_co Z.1.2.1) i j < 1000
          · rw [if_pos hd, if_neg (zi_ge 1000 1000 rfl hd (by decide))]
          · rw [if_neg hd, if_pos (zi_le 1000 1000 rfl (by omega) (by omega))]
      · have hst := zd_X9_link (zv_ev 10) g h (nI i) (nI j) (nI w)
        obtain ⟨g2, f2, K2, r2⟩ := ev_layCosts_119 (dp := 8) (Dm := (zv_w g 116 0 0, h)) (T := Z.1.1) (X := Z.1.2.1) (A := Z.1.2.2) ok.1.1 ok.1.2.1 (zBM_0 hB).1
        dsimp only at f2 r2
        have R2 : zM_R (g2 119) Z.1.1 Z.1.2.1 Z.1.2.2 := zMR_page (g := zv_w g 116 0 0) (zBM_0 hB).1 (f2 119 (by decide))
        rw [ev_nrT (dp := 8) ok (zBM_0 hB) hi] at hst
        simp only [Option.bind_some] at hst
        rw [if_pos trivial, ev_nrT (dp := 8) ok (zBM_0 hB) hj] at hst
        simp only [Option.bind_some] at hst
        rw [if_pos trivial, ev_inr (dp := 9) (zv_w g 116 0 0, h) 1 (nI w) 1 rfl (by decide), if_pos hc] at hst
        simp only [Option.bind_some] at hst
        rw [if_neg (by decide), r2] at hst
        simp only [Option.bind_some] at hst
        rw [ev_pair (dp := 9) (g2, h), zx_05, zx_5] at hst
        simp only [Option.bind_some] at hst
        rw [zi_in (n := 101) (by omega) (by decide), zi_in (n := 25) (by omega) (by decide), nI_clamp (by omega), nI_clamp (by omega), R2.2.2.2.2.2.1 _ (by omega), K2 i j hi hj, cond_true, cond_true] at hst
        refine ⟨g2, zN_trans (zN_0 g) (zN_c (fun x hx => f2 x (by omega))), zs_X9_link (hst.trans ?_)⟩
        by_cases hw0 : w = 0
        · rw [if_pos ((zi_0 (by omega)).mpr hw0), if_pos hw0]
        · rw [if_neg (fun z => hw0 ((zi_0 (by omega)).mp z)), if_neg hw0]
theorem go_session (a b : Int32) : zGo 86 153 [.int a, .int b] := by
  intro Z ok
  have h5 := ok.1.1.2.1
  refine go_two (a := a) (b := b) ok (fun g h hB ha => zs_X8_session ?_) (fun g h hB ha hb => zs_X8_session ?_) (fun g h hB ha => zs_X9_session ?_) (fun g h hB ha hb => zs_X9_session ?_) ?_
  · rw [zd_X8_session, ev_hrF (dp := 9) hB ha]; rfl
  · obtain ⟨i, hi, rfl⟩ := ha
    rw [zd_X8_session, ev_hrT (dp := 9) hB hi]
    simp only [Option.bind_some]
    rw [if_neg (by decide), ev_hrF (dp := 9) hB hb]; rfl
  · rw [zd_X9_session, ev_nrF (dp := 8) ok (zBM_0 hB) ha]; rfl
  · obtain ⟨i, hi, rfl⟩ := ha
    rw [zd_X9_session, ev_nrT (dp := 8) ok (zBM_0 hB) hi]
    simp only [Option.bind_some]
    rw [if_pos trivial, ev_nrF (dp := 8) ok (zBM_0 hB) hb]; rfl
  · rintro i j hi hj rfl rfl
    refine ⟨(nI (zT_se Z.1.1 (5 * i + j)), 0, 0), Z, ok, zCl_q fun g h hB => ?_, zMd_q fun g h hB => ?_⟩
    · have hst := zd_X8_session (zv_ev 10) g h (nI i) (nI j)
      rw [ev_hrT (dp := 9) hB hi] at hst
      simp only [Option.bind_some] at hst
      rw [if_neg (by decide), ev_hrT (dp := 9) hB hj] at hst
      simp only [Option.bind_some] at hst
      rw [if_neg (by decide), ev_sessionOf (dp := 9) (g, h) (by omega) (by omega)] at hst
      simp only [Option.bind_some] at hst
      rw [show g 10 (5 * i + j) = nI (zT_se Z.1.1 (5 * i + j)) from hB.1.2.2.2.1.2.2.1 _ (by omega)] at hst
      exact ⟨g, hB.1, fun _ _ => rfl, zs_X8_session hst⟩
    · have hst := zd_X9_session (zv_ev 10) g h (nI i) (nI j)
      rw [ev_nrT (dp := 8) ok (zBM_0 hB) hi] at hst
      simp only [Option.bind_some] at hst
      rw [if_pos trivial, ev_nrT (dp := 8) ok (zBM_0 hB) hj] at hst
      simp only [Option.bind_some] at hst
      rw [if_pos trivial, ev_pair (dp := 9) (zv_w g 116 0 0, h), zx_30] at hst
      simp only [Option.bind_some] at hst
      rw [zi_in (n := 101) (by omega) (by decide), nI_clamp (by omega), (zBM_0 hB).1.2.2.2.2.2.2.1 _ (by omega), cond_true] at hst
      exact ⟨_, zN_0 g, zs_X9_session hst⟩
theorem go_tells (a b : Int32) : zGo 98 182 [.int a, .int b] := by
  intro Z ok
  have h5 := ok.1.1.2.1
  refine go_two (a := a) (b := b) ok (fun g h hB ha => zs_X8_tells ?_) (fun g h hB ha hb => zs_X8_tells ?_) (fun g h hB ha => zs_X9_tells ?_) (fun g h hB ha hb => zs_X9_tells ?_) ?_
  · rw [zd_X8_tells, ev_hrF (dp := 9) hB ha]; rfl
  · obtain ⟨i, hi, rfl⟩ := ha
    rw [zd_X8_tells, ev_hrT (dp := 9) hB hi]
    simp only [Option.bind_some]
    rw [if_neg (by decide), ev_hrF (dp := 9) hB hb]; rfl
  · rw [zd_X9_tells, ev_nrF (dp := 8) ok (zBM_0 hB) ha]; rfl
  · obtain ⟨i, hi, rfl⟩ := ha
    rw [zd_X9_tells, ev_nrT (dp := 8) ok (zBM_0 hB) hi]
    simp only [Option.bind_some]
    rw [if_pos trivial, ev_nrF (dp := 8) ok (zBM_0 hB) hb]; rfl
  · rintro j i hj hi rfl rfl
    have a0 := za_R_lt (ok.1.2.2.1 j 0)
    have a1 := za_R_lt (ok.1.2.2.1 j 1)
    refine ⟨(if (decide (Z.1.2.2 j 0 ≠ 0) && za_te Z.1.1 j i (zc_f (Z.1.2.2 j 0))) = true then 1 else 0, 0, 0), Z, ok, zCl_q fun g h hB => ?_, zMd_q fun g h hB => ?_⟩
    · have hst := zd_X8_tells (zv_ev 10) g h (nI j) (nI i)
      obtain ⟨t, t1, t2, t3⟩ := hB.1.2.2.2.1.2.2.2.2.2.2.2 j i (by omega) (by omega)
      have c8 : g 20 j = nI (Z.1.2.2 j 0 + 2048 * Z.1.2.2 j 1) := hB.1.2.2.2.2.1.2.2.1 j (by omega)
      rw [ev_hrT (dp := 9) hB hj] at hst
      simp only [Option.bind_some] at hst
      rw [if_neg (by decide), ev_hrT (dp := 9) hB hi] at hst
      simp only [Option.bind_some] at hst
      rw [if_neg (by decide), ev_firstRoute_17 (dp := 9) (g, h) (by omega)] at hst
      simp only [Option.bind_some] at hst
      rw [c8, zi_lo (by omega), show (Z.1.2.2 j 0 + 2048 * Z.1.2.2 j 1) % 2048 = Z.1.2.2 j 0 by omega, ev_toldBy (dp := 9) (g, h) (by omega) (by omega)] at hst
      simp only [Option.bind_some] at hst
      rw [t2, ev_fromOf (dp := 9) (g, h), zi_f a0] at hst
      simp only [Option.bind_some] at hst
      refine ⟨g, hB.1, fun _ _ => rfl, zs_X8_tells (hst.trans ?_)⟩
      by_cases h0 : Z.1.2.2 j 0 = 0
      · rw [if_pos ((zi_0 (by omega)).mpr h0), if_neg (by simp [h0])]
      · have hf : zc_f (Z.1.2.2 j 0) < 5 := by
          rcases ok.1.2.2.1 j 0 with q | q
          · exact absurd q h0
          · have := q.2.2.2.1; omega
        rw [if_neg (fun z => h0 ((zi_0 (by omega)).mp z))]
        have hb := zi_b1t (a := t) (k := zc_f (Z.1.2.2 j 0)) (by omega) (by omega)
        have e0 : (decide (Z.1.2.2 j 0 ≠ 0) && za_te Z.1.1 j i (zc_f (Z.1.2.2 j 0))) = t.testBit (zc_f (Z.1.2.2 j 0)) := by rw [t3 _ hf]; simp [h0]
        rw [e0]
        by_cases hq : t.testBit (zc_f (Z.1.2.2 j 0)) = true
        · rw [if_pos (hb ▸ hq), if_pos hq]
        · rw [if_neg (fun z => hq (hb ▸ z)), if_neg hq]
    · have hst := zd_X9_tells (zv_ev 10) g h (nI j) (nI i)
      rw [ev_nrT (dp := 8) ok (zBM_0 hB) hj] at hst
      simp only [Option.bind_some] at hst
      rw [if_pos trivial, ev_nrT (dp := 8) ok (zBM_0 hB) hi] at hst
      simp only [Option.bind_some] at hst
      rw [if_pos trivial, show (Value.int 0) = Value.int (nI 0) from rfl, ev_isTold_119 (dp := 8) (Dm := (zv_w g 116 0 0, h)) (T := Z.1.1) (X := Z.1.2.1) (A := Z.1.2.2) ok.1.1 (zBM_0 hB).1 (ok.1.2.2.1 j 0) (by omega) (by omega) (by decide)] at hst
      simp only [Option.bind_some] at hst
      refine ⟨_, zN_0 g, zs_X9_tells (hst.trans ?_)⟩
      cases (decide (Z.1.2.2 j 0 ≠ 0) && za_te Z.1.1 j i (zc_f (Z.1.2.2 j 0))) <;> rfl
/-- a router that is not there -/
theorem go_one {kc km : Nat} {a : Int32} {As : List Value} {Z : zZ} (ok : zOK Z) (hc1 : ∀ g h, zBC g h Z → zv_in a (zT_n Z.1.1) = false → zv_ev 11 kc (.ref 0 :: As) zS0 (g, h) = zo_i (-1) (g, h)) (hm1 : ∀ g h, zBM g h Z → zv_in a (zT_n Z.1.1) = false → zv_ev 11 km (.ref 116 :: As) zS0 (g, h) = zo_i (-1) (zv_w g 116 0 0, h)) (H : ∀ i, i < zT_n Z.1.1 → a = nI i → ∃ v Z', zOK Z' ∧ zCl kc As Z v Z' ∧ zMd km As Z v Z') : ∃ v Z', zOK Z' ∧ zCl kc As Z v Z' ∧ zMd km As Z v Z' := by
  cases ha : zv_in a (zT_n Z.1.1) with
  | false => exact ⟨(-1, 0, 0), Z, ok, zCl_q fun g h hB => ⟨g, hB.1, fun _ _ => rfl, hc1 g h hB ha⟩, zMd_q fun g h hB => ⟨_, zN_0 g, hm1 g h hB ha⟩⟩
  | true =>
    obtain ⟨i, hi, ei⟩ := zi_of ha
    exact H i hi ei
theorem go_heard (a : Int32) : zGo 97 181 [.int a] := by
  intro Z ok
  refine go_one (a := a) ok (fun g h hB ha => zs_X8_heard ?_) (fun g h hB ha => zs_X9_heard ?_) ?_
  · rw [zd_X8_heard, ev_hrF (dp := 9) hB ha]; rfl
  · rw [zd_X9_heard, ev_nrF (dp := 8) ok (zBM_0 hB) ha]; rfl
  rintro i hi rfl
  refine ⟨(nI (za_set (za_hd Z.1.1 Z.1.2.1 Z.1.2.2 i)), 0, 0), Z, ok, zCl_q fun g h hB => ?_, zMd_q fun g h hB => ?_⟩
  · obtain ⟨g1, f1, -, r1⟩ := ev_listen_16 (dp := 7) (Dm := (g, h)) hB.1 hi
    dsimp only at f1 r1
    have hst := zd_X8_heard (zv_ev 10) g h (nI i)
    rw [ev_hrT (dp := 9) hB hi] at hst
    simp only [Option.bind_some] at hst
    rw [if_neg (by decide), r1] at hst
    have F : zF 25 25 g g1 := fun x hx => f1 x (by omega)
    exact ⟨g1, zC_F hB.1 F (by decide) (by decide), fun x hx => f1 x (by omega), zs_X8_heard hst⟩
  · have hB0 := zBM_0 hB
    obtain ⟨g2, f2, K2, r2⟩ := ev_layCosts_119 (dp := 8) (Dm := (zv_w g 116 0 0, h)) (T := Z.1.1) (X := Z.1.2.1) (A := Z.1.2.2) ok.1.1 ok.1.2.1 hB0.1
    dsimp only at f2 r2
    obtain ⟨g3, f3, O3, r3⟩ := ev_gather_119 (dp := 7) (Dm := (g2, h)) (T := Z.1.1) (X := Z.1.2.1) (A := Z.1.2.2) ok.1.1 ok.1.2.1 (zMR_page (g := zv_w g 116 0 0) hB0.1 (f2 119 (by decide))) K2 ok.1.2.2 hi
    dsimp only at f3 r3
    have hst := zd_X9_heard (zv_ev 10) g h (nI i)
    rw [ev_nrT (dp := 8) ok hB0 hi] at hst
    simp only [Option.bind_some] at hst
    rw [if_pos trivial, r2] at hst
    simp only [Option.bind_some] at hst
    rw [r3] at hst
    simp only [Option.bind_some] at hst
    rw [ev_gathered (dp := 9) (Dm := (g3, h)) (off := za_hd Z.1.1 Z.1.2.1 Z.1.2.2 i) (fun e he => by
      show g3 129 e = -9 ↔ _
      rw [(O3 e he).1]
      exact zm_v9 (by have := zc_f_lt (za_hd Z.1.1 Z.1.2.1 Z.1.2.2 i e); omega))] at hst
    exact ⟨g3, zN_trans (zN_0 g) (zN_c (fun x hx => (f3 x (by omega) (by omega)).trans (f2 x (by omega)))), zs_X9_heard hst⟩
theorem go_leaves (a c : Int32) : zGo 100 185 [.int a, .int c] := by
  intro Z ok
  have h4 := ok.1.1.2.2.1
  refine go_one (a := a) ok (fun g h hB ha => zs_X8_leaves ?_) (fun g h hB ha => zs_X9_leaves ?_) ?_
  · rw [zd_X8_leaves, ev_hrF (dp := 9) hB ha]; rfl
  · rw [zd_X9_leaves, ev_nrF (dp := 8) ok (zBM_0 hB) ha]; rfl
  rintro i hi rfl
  rcases zi_rng (a := c) (n := 1) (by decide) 1 rfl with ⟨hc, hx⟩ | ⟨w, hw, rfl, k1, k2, k3, hc⟩
  · refine ⟨(-2, 0, 0), Z, ok, zCl_q fun g h hB => ?_, zMd_q fun g h hB => ?_⟩
    · have hst := zd_X8_leaves (zv_ev 10) g h (nI i) c
      rw [ev_hrT (dp := 9) hB hi] at hst
      simp only [Option.bind_some] at hst
      rw [if_neg (by decide)] at hst
      refine ⟨g, hB.1, fun _ _ => rfl, zs_X8_leaves (hst.trans ?_)⟩
      rcases hx with hx | ⟨hx, hy, _⟩
      · rw [if_pos hx]
      · rw [if_neg hx, if_neg hy]
    · have hst := zd_X9_leaves (zv_ev 10) g h (nI i) c
      rw [ev_nrT (dp := 8) ok (zBM_0 hB) hi] at hst
      simp only [Option.bind_some] at hst
      rw [if_pos trivial, ev_inr (dp := 9) (zv_w g 116 0 0, h) 1 c 1 rfl (by decide), if_neg hc] at hst
      exact ⟨_, zN_0 g, zs_X9_leaves hst⟩
  · have hwk := za_wk_ok (T := Z.1.1) (X := Z.1.2.1) (A := Z.1.2.2) ok.1.1 ok.1.2.2 6 i 0
    refine ⟨(match za_wk Z.1.1 Z.1.2.1 Z.1.2.2 6 i 0 with
      | none => -9
      | some p => if w = 0 then nI p.1 else nI p.2, 0, 0), Z, ok, zCl_q fun g h hB => ?_, zMd_q fun g h hB => ?_⟩
    · obtain ⟨g1, f1, p1, r1⟩ := ev_send_16 (dp := 7) (Dm := (g, h)) hB.1 hi
      dsimp only at f1 r1
      have hst := zd_X8_leaves (zv_ev 10) g h (nI i) (nI w)
      rw [ev_hrT (dp := 9) hB hi] at hst
      simp only [Option.bind_some] at hst
      rw [if_neg (by decide), if_neg k1, if_pos k2, r1] at hst
      simp only [Option.bind_some] at hst
      have F : zF 16 16 g g1 := fun x hx => f1 x (by omega)
      refine ⟨g1, zC_F hB.1 F (by decide) (by decide), fun x hx => f1 x (by omega), zs_X8_leaves (hst.trans ?_)⟩
      cases hq : za_wk Z.1.1 Z.1.2.1 Z.1.2.2 6 i 0 with
      | none => exact if_pos rfl
      | some p =>
        have hp := hwk p hq
        show (if nI p.1 = -1 then _ else _) = _
        rw [if_neg (zi_ne1 (by omega)), p1 p hq]
        by_cases hw0 : w = 0
        · rw [if_pos ((zi_0 (by omega)).mpr hw0)]
          simp only [if_pos hw0]
          rfl
        · rw [if_neg (fun z => hw0 ((zi_0 (by omega)).mp z))]
          simp only [if_neg hw0]
    · have hB0 := zBM_0 hB
      obtain ⟨g2, f2, K2, r2⟩ := ev_layCosts_119 (dp := 8) (Dm := (zv_w g 116 0 0, h)) (T := Z.1.1) (X := Z.1.2.1) (A := Z.1.2.2) ok.1.1 ok.1.2.1 hB0.1
      dsimp only at f2 r2
      obtain ⟨g3, f3, o3, p3, r3⟩ := ev_leaveFrom_119 (dp := 8) (Dm := (g2, h)) (T := Z.1.1) (X := Z.1.2.1) (A := Z.1.2.2) ok.1.1 ok.1.2.1 ok.1.2.2 (zMR_page (g := zv_w g 116 0 0) hB0.1 (f2 119 (by decide))) K2 hi
      dsimp only at f3 o3 r3
      have hst := zd_X9_leaves (zv_ev 10) g h (nI i) (nI w)
      rw [ev_nrT (dp := 8) ok hB0 hi] at hst
      simp only [Option.bind_some] at hst
      rw [if_pos trivial, ev_inr (dp := 9) (zv_w g 116 0 0, h) 1 (nI w) 1 rfl (by decide), if_pos hc] at hst
      simp only [Option.bind_some] at hst
      rw [if_neg (by decide), r2] at hst
      simp only [Option.bind_some] at hst
      rw [r3] at hst
      simp only [Option.bind_some] at hst
      refine ⟨g3, zN_trans (zN_0 g) ⟨fun x hx => (f3 x (by omega)).trans (f2 x (by omega)), fun q hq => (o3 q (by omega)).trans (congrFun (f2 116 (by decide)) q)⟩, zs_X9_leaves (hst.trans ?_)⟩
      cases hq : za_wk Z.1.1 Z.1.2.1 Z.1.2.2 6 i 0 with
      | none =>
        show (if nI w = 0 then _ else if (-9 : Int32) = -9 then _ else _) = _
        rw [if_pos rfl, ite_self]
        rfl
      | some p =>
        have hp := hwk p hq
        show (if nI w = 0 then zv_ri (nI p.1) zS0 (g3, h) else if nI p.1 = -9 then _ else _) = _
        rw [if_neg (zi_ne9 (by omega)), p3 p hq]
        by_cases hw0 : w = 0
        · rw [if_pos ((zi_0 (by omega)).mpr hw0)]
          simp only [if_pos hw0]
        · rw [if_neg (fun z => hw0 ((zi_0 (by omega)).mp z))]
          simp only [if_neg hw0]
