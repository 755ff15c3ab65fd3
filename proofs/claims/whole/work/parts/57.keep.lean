theorem go_undo : zGo 95 179 [] := by
  intro Z ok
  have hP := ok.2.2.1
  by_cases h0 : Z.2.2.1.2 = 0
  · refine ⟨(-3, 0, 0), Z, ok, zCl_q fun g h hB => ?_, zMd_q fun g h hB => ?_⟩
    · obtain ⟨nx, -, b, -, -⟩ := hB.2.2.1
      have hst := zd_X8_undo (zv_ev 10) g h
      rw [b, if_pos ((zi_0 (by omega)).mpr h0)] at hst
      exact ⟨g, hB.1, fun _ _ => rfl, zs_X8_undo hst⟩
    · have hst := zd_X9_undo (zv_ev 10) g h
      rw [zw_other _ _ _ (by decide), hB.2.2.1.1, if_pos ((zi_0 (by omega)).mpr h0)] at hst
      exact ⟨_, zN_0 g, zs_X9_undo hst⟩
  · have hp0 := hP.2 0 (by omega)
    refine ⟨(nI (Z.2.2.1.2 - 1), 0, 0), ((Z.1.1, (Z.2.2.1.1 0).1, (Z.2.2.1.1 0).2), Z.2.1, zPo Z.2.2.1, Z.2.2.2), ⟨⟨ok.1.1, hp0.1, hp0.2⟩, ok.2.1, ⟨Nat.le_trans (Nat.sub_le _ _) hP.1, fun i hi => hP.2 (i + 1) (by have : i < Z.2.2.1.2 - 1 := hi; omega)⟩, ok.2.2.2⟩, fun g h hB => ?_, fun g h hB => ?_⟩
    · obtain ⟨g1, k, hk, f1, X1, b1, r1⟩ := ev_latest (dp := 9) (Dm := (g, h)) hB.2.2.1 hP.1 (by omega)
      dsimp only at f1 r1
      have F1 : zF 44 44 g g1 := fun x hx => f1 x (by omega)
      have B1 : zBC g1 h (Z.1, Z.2.1, zPo Z.2.2.1, Z.2.2.2) := ⟨zC_F hB.1 F1 (by decide) (by decide), zb2_of hB.2.1 (congrFun (f1 1 (by decide)) 1) (f1 2 (by decide)) (fun x h1 h2 => f1 x (by omega)), b1, zb4_of hB.2.2.2.1 (fun x h1 h2 => f1 x (by omega)), zb5_of hB.2.2.2.2.1 (fun x h1 h2 => f1 x (by omega)), hB.2.2.2.2.2⟩
      obtain ⟨g2, f2, C2, r2⟩ := ev_restore (dp := 6) (Dm := (g1, h)) (T := Z.1.1) (X0 := Z.1.2.1) (A0 := Z.1.2.2) (X := (Z.2.2.1.1 0).1) (A := (Z.2.2.1.1 0).2) (r := 46 + 4 * k) B1.1 (by omega) (fun D' => ev_copy_fr D' k hk) hp0.1 hp0.2 X1
      dsimp only at f2 r2
      have hst := zd_X8_undo (zv_ev 10) g h
      obtain ⟨nx, -, b, -, -⟩ := hB.2.2.1
      rw [b, if_neg (fun z => h0 ((zi_0 (by omega)).mp z)), r1] at hst
      simp only [Option.bind_some] at hst
      rw [r2] at hst
      simp only [Option.bind_some] at hst
      have B2 := zBC_a B1 C2 f2
      obtain ⟨nx2, -, b2, -, -⟩ := B2.2.2.1
      rw [b2] at hst
      exact ⟨g2, h, B2, fun x hx => ⟨(f2 x (by omega)).trans (f1 x (by omega)), rfl⟩, zs_X8_undo hst⟩
    · have hst := zd_X9_undo (zv_ev 10) g h
      have e10 : zv_w g 116 0 0 116 10 = nI Z.2.2.1.2 := (zw_other _ _ _ (by decide)).trans hB.2.2.1.1
      rw [e10, if_neg (fun z => h0 ((zi_0 (by omega)).mp z)), show nI Z.2.2.1.2 - 1 = nI (Z.2.2.1.2 - 1) from pk_sub (a := Z.2.2.1.2) (b := 1) (by omega)] at hst
      obtain ⟨g1, ⟨f1, n1⟩, r1⟩ := zl_up (fun k (s : Nat → Nat → Int32) => zv_m zt_X9_undo (zv_ev 10) false 27 [some (.ref 116), some (.int (nI k))] [] zS0 (s, h)) 101 (fun k s => (∀ x, x ≠ 119 → s x = zv_w (zv_w g 116 0 0) 116 10 (nI (Z.2.2.1.2 - 1)) x) ∧ ∀ q, q < k → s 119 q = g 122 (101 * (Z.2.2.1.2 - 1) + q)) (by
        intro k s hk ⟨hf, hn⟩
        have hs := zd_X9_undo_27 (zv_ev 10) s h (nI k)
        rw [if_neg (zi_ge 101 101 rfl hk (by decide)), hf 116 (by decide), zw_same, show (101 : Int32) * nI (Z.2.2.1.2 - 1) = nI (101 * (Z.2.2.1.2 - 1)) from pk_mul 101 _, nI_add, zi_in (n := 1414) (by omega) (by decide), zi_in hk (by decide), nI_clamp (by omega), nI_clamp (by omega), nI_1] at hs
        simp only [cond_true] at hs
        refine ⟨_, ⟨fun x hx => (zw_cell _ _ _ hx).trans (hf x hx), fun q hq => ?_⟩, hs⟩
        by_cases hqk : q = k
        · subst hqk; rw [zw_same, hf 122 (by decide), zw_cell _ _ _ (by decide), zw_cell _ _ _ (by decide)]
        · rw [zw_other _ _ _ hqk]; exact hn q (by omega)) (zv_w (zv_w g 116 0 0) 116 10 (nI (Z.2.2.1.2 - 1))) ⟨fun _ _ => rfl, fun q hq => absurd hq (Nat.not_lt_zero q)⟩
      have hs2 := hst.trans (r1.trans (zd_X9_undo_27 (zv_ev 10) g1 h (nI 101)))
      rw [if_pos (by decide), f1 116 (by decide), zw_same] at hs2
      have fr : ∀ x, x ≠ 116 → x ≠ 119 → g1 x = g x := fun x h1 h2 => (f1 x h2).trans ((zw_cell _ _ _ h1).trans (zw_cell _ _ _ h1))
      have fq : ∀ q, q ≠ 0 → q ≠ 10 → g1 116 q = g 116 q := fun q h1 h2 => by rw [f1 116 (by decide), zw_other _ _ _ h2, zw_other _ _ _ h1]
      refine ⟨g1, h, ⟨?_, zm2_of hB.2.1 (fq 2 (by decide) (by decide)) (fr 117 (by decide) (by decide)), ⟨?_, fun i hi => ?_⟩, zm4_of hB.2.2.2.1 (fr 123 (by decide) (by decide)) (fr 124 (by decide) (by decide)), zm5_of hB.2.2.2.2.1 (fq 13 (by decide) (by decide)) (fun x h1 h2 => fr x (by omega) (by omega)), hB.2.2.2.2.2⟩, fun x hx => ⟨fr x (by omega) (by omega), rfl⟩, zs_X9_undo hs2⟩
      · exact zM_R_of (hB.2.2.1.2 0 (by omega)) (fun k hk => (n1 k hk).trans (by rw [Nat.sub_zero])) ok.1.1.2.2.1
      · rw [f1 116 (by decide), zw_same]; rfl
      · have hi' : i < Z.2.2.1.2 - 1 := hi
        rw [fr 122 (by decide) (by decide)]
        refine zM_R_of (hB.2.2.1.2 (i + 1) (by omega)) (fun k hk => ?_) ok.1.1.2.2.1
        show g 122 (101 * (Z.2.2.1.2 - 1 - 1 - i) + k) = g 122 (101 * (Z.2.2.1.2 - 1 - (i + 1)) + k)
        exact congrArg (g 122) (by omega)
/-! slots -/
theorem ev_copy_ks {dp : Nat} (Dm : zv_D) : ∀ k, k < 2 → zv_ev (dp + 1) 68 [.ref (103 + 4 * k), .ref 17] zS0 Dm = zo_v (zv_sc (103 + 4 * k) 17 Dm.1, Dm.2)
  | 0, _ => ev_copy_103_17 Dm
  | 1, _ => ev_copy_107_17 Dm
  | k + 2, h => (Nat.not_lt.mpr (Nat.le_add_left 2 k) h).elim
theorem ev_copy_sk {dp : Nat} (Dm : zv_D) : ∀ k, k < 2 → zv_ev (dp + 1) 68 [.ref 17, .ref (103 + 4 * k)] zS0 Dm = zo_v (zv_sc 17 (103 + 4 * k) Dm.1, Dm.2)
  | 0, _ => ev_copy_17_103 Dm
  | 1, _ => ev_copy_17_107 Dm
  | k + 2, h => (Nat.not_lt.mpr (Nat.le_add_left 2 k) h).elim
theorem zi_2 {a : Int32} : (zv_in a 2 = false ∧ (a < 0 ∨ (¬ a < 0 ∧ ¬ a < 2))) ∨ ∃ k, k < 2 ∧ a = nI k ∧ ¬ a < 0 ∧ a < 2 ∧ zv_in a 2 = true := by
  rcases zi_rng (a := a) (n := 1) (by decide) 1 rfl with ⟨hb, hx⟩ | ⟨k, hk, rfl, k1, k2, k3, hb⟩
  · refine Or.inl ⟨by simpa using hb, ?_⟩
    rcases hx with hx | ⟨hx, hy, _⟩
    · exact Or.inl hx
    · refine Or.inr ⟨hx, fun q => ?_⟩
      obtain ⟨j, hj, rfl⟩ := nI_of hx
      have : j < 2 := (nI_ltI hj (by decide)).mp q
      exact hy (nI_le (b := 1) (by omega) (by decide))
  · exact Or.inr ⟨k, by omega, rfl, k1, nI_lt (b := 2) (by omega) (by decide), hb⟩
theorem zx_nb1 : vp_nar .boolean 1 = 1 := rfl
theorem go_keep (a : Int32) : zGo 112 212 [.int a] := by
  intro Z ok
  rcases zi_2 (a := a) with ⟨hb, hx⟩ | ⟨s, hs, rfl, k1, k2, hb⟩
  · refine ⟨(-1, 0, 0), Z, ok, zCl_q fun g h hB => ?_, zMd_q fun g h hB => ?_⟩
    · have hst := zd_X8_keep (zv_ev 10) g h a
      refine ⟨g, hB.1, fun _ _ => rfl, zs_X8_keep (hst.trans ?_)⟩
      rcases hx with hx | ⟨hx, hy⟩
      · rw [if_pos hx]
      · rw [if_neg hx, if_neg hy]
    · have hst := zd_X9_keep (zv_ev 10) g h a
      rw [ev_inr (dp := 9) (zv_w g 116 0 0, h) 1 a 1 rfl (by decide), hb] at hst
      exact ⟨_, zN_0 g, zs_X9_keep hst⟩
  · refine ⟨(nI (zT_n Z.1.1), 0, 0), (Z.1, Z.2.1, Z.2.2.1, (fun q => if q = s then (Z.1.2.1, Z.1.2.2) else Z.2.2.2.1.1 q, fun q => if q = s then true else Z.2.2.2.1.2 q), Z.2.2.2.2), ⟨ok.1, ok.2.1, ok.2.2.1, fun q hq hf => ?_, ok.2.2.2.2⟩, fun g h hB => ?_, fun g h hB => ?_⟩
    · dsimp only at hf ⊢
      by_cases hqs : q = s
      · rw [if_pos hqs]; exact ⟨ok.1.2.1, ok.1.2.2⟩
      · rw [if_neg hqs] at hf ⊢
        exact ok.2.2.2.1 q hq hf
    · have hst := zd_X8_keep (zv_ev 10) g h (nI s)
      rw [if_neg k1, if_pos k2, hb, nI_clamp (by omega), zk_slot s hs, cond_true] at hst
      simp only [Option.bind_some] at hst
      rw [ev_copy_ks (dp := 9) (g, h) s hs] at hst
      simp only [Option.bind_some, cond_true] at hst
      have fr : ∀ x, x ≠ 111 → x < 103 + 4 * s ∨ 106 + 4 * s < x → zv_w (zv_sc (103 + 4 * s) 17 g) 111 s (vp_nar .boolean 1) x = g x := fun x h1 h2 => (zw_cell _ _ _ h1).trans (zsc_frame _ _ _ (by omega))
      have F : zF 103 111 g (zv_w (zv_sc (103 + 4 * s) 17 g) 111 s (vp_nar .boolean 1)) := fun x hx => fr x (by omega) (by omega)
      rw [fr 9 (by decide) (by omega), zB_n hB] at hst
      refine ⟨_, h, ⟨zC_F hB.1 F (by decide) (by decide), zb2_of hB.2.1 (congrFun (F 1 (by decide)) 1) (F 2 (by decide)) (fun x h1 h2 => F x (by omega)), zb3_of hB.2.2.1 (fun x h1 h2 => F x (by omega)), fun q hq => ?_, zb5_of hB.2.2.2.2.1 (fun x h1 h2 => F x (by omega)), hB.2.2.2.2.2⟩, fun x hx => ⟨F x (by omega), rfl⟩, zs_X8_keep hst⟩
      by_cases hqs : q = s
      · subst hqs
        refine ⟨(zw_same _ _ _ _).trans (by show (1 : Int32) = if (if q = q then true else _) = true then 1 else 0; simp), fun _ => ?_⟩
        show zC_X _ _ (if q = q then (Z.1.2.1, Z.1.2.2) else _).1 (if q = q then (Z.1.2.1, Z.1.2.2) else _).2
        rw [if_pos rfl]
        exact zC_X_of (zsc_X (by omega) hB.1.2.2.2.2.1) (fun x h1 h2 => zw_cell _ _ _ (by omega))
      · have hq4 := hB.2.2.2.1 q hq
        refine ⟨(zw_other _ _ _ hqs).trans ((congrFun (zsc_frame _ _ _ (by omega)) q).trans (hq4.1.trans (by show _ = if (if q = s then true else Z.2.2.2.1.2 q) = true then 1 else 0; simp [hqs]))), fun hf => ?_⟩
        have hf' : (if q = s then true else Z.2.2.2.1.2 q) = true := hf
        rw [if_neg hqs] at hf'
        show zC_X _ _ (if q = s then (Z.1.2.1, Z.1.2.2) else Z.2.2.2.1.1 q).1 (if q = s then (Z.1.2.1, Z.1.2.2) else Z.2.2.2.1.1 q).2
        rw [if_neg hqs]
        exact zC_X_of (hq4.2 hf') (fun x h1 h2 => fr x (by omega) (by omega))
    · have hst := zd_X9_keep (zv_ev 10) g h (nI s)
      rw [ev_inr (dp := 9) (zv_w g 116 0 0, h) 1 (nI s) 1 rfl (by decide), hb] at hst
      simp only [Option.bind_some, cond_true] at hst
      rw [if_pos trivial, if_neg (by decide), nI_clamp (by omega), zx_nb1] at hst
      obtain ⟨g1, ⟨f1, o1, n1⟩, r1⟩ := zl_up (fun k (t : Nat → Nat → Int32) => zv_m zt_X9_keep (zv_ev 10) false 26 [some (.ref 116), some (.int (nI s)), some (.int (nI k))] [] zS0 (t, h)) 101 (fun k t => (∀ x, x ≠ 123 → t x = zv_w (zv_w g 116 0 0) 124 s 1 x) ∧ (∀ q, q < 101 * s ∨ 101 * s + k ≤ q → t 123 q = g 123 q) ∧ ∀ q, q < k → t 123 (101 * s + q) = g 119 q) (by
        intro k t hk ⟨hf, ho, hn⟩
        have hs' := zd_X9_keep_26 (zv_ev 10) t h (nI s) (nI k)
        rw [if_neg (zi_ge 101 101 rfl hk (by decide)), show (101 : Int32) * nI s = nI (101 * s) from pk_mul 101 _, nI_add, zi_in (n := 202) (by omega) (by decide), zi_in hk (by decide), nI_clamp (by omega), nI_clamp (by omega), nI_1] at hs'
        simp only [cond_true] at hs'
        refine ⟨_, ⟨fun x hx => (zw_cell _ _ _ hx).trans (hf x hx), fun q hq => ?_, fun q hq => ?_⟩, hs'⟩
        · rw [zw_other _ _ _ (by omega)]; exact ho q (by omega)
        · by_cases hqk : q = k
          · subst hqk; rw [zw_same, hf 119 (by decide), zw_cell _ _ _ (by decide), zw_cell _ _ _ (by decide)]
          · rw [zw_other _ _ _ (by omega)]; exact hn q (by omega)) (zv_w (zv_w g 116 0 0) 124 s 1) ⟨fun _ _ => rfl, fun q _ => congrFun ((zw_cell _ _ _ (by decide)).trans (zw_cell _ _ _ (by decide))) q, fun q hq => absurd hq (Nat.not_lt_zero q)⟩
      have hs2 := hst.trans (r1.trans (zd_X9_keep_26 (zv_ev 10) g1 h (nI s) (nI 101)))
      have fr : ∀ x, x ≠ 116 → x ≠ 123 → x ≠ 124 → g1 x = g x := fun x h1 h2 h3 => (f1 x h2).trans ((zw_cell _ _ _ h3).trans (zw_cell _ _ _ h1))
      have fq : ∀ q, q ≠ 0 → g1 116 q = g 116 q := fun q h1 => by rw [f1 116 (by decide), zw_cell _ _ _ (by decide), zw_other _ _ _ h1]
      rw [if_pos (by decide), fr 119 (by decide) (by decide) (by decide), hB.1.1] at hs2
      refine ⟨g1, h, ⟨by rw [fr 119 (by decide) (by decide) (by decide)]; exact hB.1, zm2_of hB.2.1 (fq 2 (by decide)) (fr 117 (by decide) (by decide) (by decide)), zm3_of hB.2.2.1 (fq 10 (by decide)) (fr 122 (by decide) (by decide) (by decide)), fun q hq => ?_, zm5_of hB.2.2.2.2.1 (fq 13 (by decide)) (fun x h1 h2 => fr x (by omega) (by omega) (by omega)), hB.2.2.2.2.2⟩, fun x hx => ⟨fr x (by omega) (by omega) (by omega), rfl⟩, zs_X9_keep hs2⟩
      rw [f1 124 (by decide)]
      by_cases hqs : q = s
      · subst hqs
        refine ⟨(zw_same _ _ _ _).trans (by show (1 : Int32) = if (if q = q then true else _) = true then 1 else 0; simp), fun _ => ?_⟩
        show zM_R _ _ (if q = q then (Z.1.2.1, Z.1.2.2) else _).1 (if q = q then (Z.1.2.1, Z.1.2.2) else _).2
        rw [if_pos rfl]
        exact zM_R_of hB.1 (fun k hk => n1 k hk) ok.1.1.2.2.1
      · have hq4 := hB.2.2.2.1 q hq
        refine ⟨(zw_other _ _ _ hqs).trans ((congrFun (zw_cell _ _ _ (by decide)) q).trans (hq4.1.trans (by show _ = if (if q = s then true else Z.2.2.2.1.2 q) = true then 1 else 0; simp [hqs]))), fun hf => ?_⟩
        have hf' : (if q = s then true else Z.2.2.2.1.2 q) = true := hf
        rw [if_neg hqs] at hf'
        show zM_R _ _ (if q = s then (Z.1.2.1, Z.1.2.2) else Z.2.2.2.1.1 q).1 (if q = s then (Z.1.2.1, Z.1.2.2) else Z.2.2.2.1.1 q).2
        rw [if_neg hqs]
        exact zM_R_of (hq4.2 hf') (fun k hk => o1 _ (by omega)) ok.1.1.2.2.1
theorem go_again (a : Int32) : zGo 113 213 [.int a] := by
  intro Z ok
  rcases zi_2 (a := a) with ⟨hb, hx⟩ | ⟨s, hs, rfl, k1, k2, hb⟩
  · refine ⟨(-1, 0, 0), Z, ok, zCl_q fun g h hB => ?_, zMd_q fun g h hB => ?_⟩
    · have hst := zd_X8_again (zv_ev 10) g h a
      refine ⟨g, hB.1, fun _ _ => rfl, zs_X8_again (hst.trans ?_)⟩
      rcases hx with hx | ⟨hx, hy⟩
      · rw [if_pos hx]
      · rw [if_neg hx, if_neg hy]
    · have hst := zd_X9_again (zv_ev 10) g h a
      rw [ev_inr (dp := 9) (zv_w g 116 0 0, h) 1 a 1 rfl (by decide), hb] at hst
      exact ⟨_, zN_0 g, zs_X9_again hst⟩
  · cases hf : Z.2.2.2.1.2 s with
    | false =>
      refine ⟨(-3, 0, 0), Z, ok, zCl_q fun g h hB => ?_, zMd_q fun g h hB => ?_⟩
      · have hst := zd_X8_again (zv_ev 10) g h (nI s)
        have e := (hB.2.2.2.1 s hs).1
        rw [hf] at e
        rw [if_neg k1, if_pos k2, hb, nI_clamp (by omega), e, cond_true] at hst
        exact ⟨g, hB.1, fun _ _ => rfl, zs_X8_again hst⟩
      · have hst := zd_X9_again (zv_ev 10) g h (nI s)
        have e := (hB.2.2.2.1 s hs).1
        rw [hf] at e
        rw [ev_inr (dp := 9) (zv_w g 116 0 0, h) 1 (nI s) 1 rfl (by decide), hb] at hst
        simp only [Option.bind_some, cond_true] at hst
        rw [if_pos trivial, if_neg (by decide), nI_clamp (by omega), zw_cell _ _ _ (by decide), e] at hst
        exact ⟨_, zN_0 g, zs_X9_again hst⟩
    | true =>
      have hk := ok.2.2.2.1 s hs hf
      refine ⟨(nI (zT_n Z.1.1), 0, 0), ((Z.1.1, (Z.2.2.2.1.1 s).1, (Z.2.2.2.1.1 s).2), Z.2.1, (Z.2.2.1.1, 0), Z.2.2.2), ⟨⟨ok.1.1, hk.1, hk.2⟩, ok.2.1, ⟨Nat.zero_le _, fun i hi => absurd hi (Nat.not_lt_zero i)⟩, ok.2.2.2⟩, fun g h hB => ?_, fun g h hB => ?_⟩
      · have hst := zd_X8_again (zv_ev 10) g h (nI s)
        have e := (hB.2.2.2.1 s hs).1
        rw [hf] at e
        obtain ⟨g2, f2, C2, r2⟩ := ev_restore (dp := 6) (Dm := (g, h)) (T := Z.1.1) (X0 := Z.1.2.1) (A0 := Z.1.2.2) (X := (Z.2.2.2.1.1 s).1) (A := (Z.2.2.2.1.1 s).2) (r := 103 + 4 * s) hB.1 (by omega) (fun D' => ev_copy_sk D' s hs) hk.1 hk.2 ((hB.2.2.2.1 s hs).2 hf)
        dsimp only at f2 r2
        rw [if_neg k1, if_pos k2, hb, nI_clamp (by omega), e, zk_slot s hs, cond_true, if_pos rfl, if_neg (by decide), cond_true] at hst
        simp only [Option.bind_some] at hst
        rw [r2] at hst
        simp only [Option.bind_some] at hst
        have B2 := zBC_a hB C2 f2
        have F : zF 44 44 g2 (zv_w g2 44 0 0) := zF_w _ _ _ (by decide) (by decide)
        rw [zw_cell _ _ _ (by decide), zB_n B2] at hst
        obtain ⟨nx, n1, n2, n3, n4⟩ := B2.2.2.1
        refine ⟨_, h, ⟨zC_F B2.1 F (by decide) (by decide), zb2_of B2.2.1 (congrFun (F 1 (by decide)) 1) (F 2 (by decide)) (fun x h1 h2 => F x (by omega)), ⟨nx, n1, zw_same _ _ _ _, (zw_other _ _ _ (by decide)).trans n3, fun i hi => absurd hi (Nat.not_lt_zero i)⟩, zb4_of B2.2.2.2.1 (fun x h1 h2 => F x (by omega)), zb5_of B2.2.2.2.2.1 (fun x h1 h2 => F x (by omega)), B2.2.2.2.2.2⟩, fun x hx => ⟨(F x (by omega)).trans (f2 x (by omega)), rfl⟩, zs_X8_again hst⟩
      · have hst := zd_X9_again (zv_ev 10) g h (nI s)
        have e := (hB.2.2.2.1 s hs).1
        rw [hf] at e
        rw [ev_inr (dp := 9) (zv_w g 116 0 0, h) 1 (nI s) 1 rfl (by decide), hb] at hst
        simp only [Option.bind_some, cond_true] at hst
        rw [if_pos trivial, if_neg (by decide), nI_clamp (by omega), zw_cell _ _ _ (by decide), e, if_pos rfl, if_neg (by decide)] at hst
        obtain ⟨g1, ⟨f1, n1⟩, r1⟩ := zl_up (fun k (t : Nat → Nat → Int32) => zv_m zt_X9_again (zv_ev 10) false 31 [some (.ref 116), some (.int (nI s)), some (.int (nI k))] [] zS0 (t, h)) 101 (fun k t => (∀ x, x ≠ 119 → t x = zv_w g 116 0 0 x) ∧ ∀ q, q < k → t 119 q = g 123 (101 * s + q)) (by
          intro k t hk ⟨hf, hn⟩
          have hs' := zd_X9_again_31 (zv_ev 10) t h (nI s) (nI k)
          rw [if_neg (zi_ge 101 101 rfl hk (by decide)), show (101 : Int32) * nI s = nI (101 * s) from pk_mul 101 _, nI_add, zi_in (n := 202) (by omega) (by decide), zi_in hk (by decide), nI_clamp (by omega), nI_clamp (by omega), nI_1] at hs'
          simp only [cond_true] at hs'
          refine ⟨_, ⟨fun x hx => (zw_cell _ _ _ hx).trans (hf x hx), fun q hq => ?_⟩, hs'⟩
          by_cases hqk : q = k
          · subst hqk; rw [zw_same, hf 123 (by decide), zw_cell _ _ _ (by decide)]
          · rw [zw_other _ _ _ (by omega)]; exact hn q (by omega)) (zv_w g 116 0 0) ⟨fun _ _ => rfl, fun q hq => absurd hq (Nat.not_lt_zero q)⟩
        have R1 : zM_R (g1 119) Z.1.1 (Z.2.2.2.1.1 s).1 (Z.2.2.2.1.1 s).2 := zM_R_of ((hB.2.2.2.1 s hs).2 hf) (fun k hk => n1 k hk) ok.1.1.2.2.1
        have hs2 := hst.trans (r1.trans (zd_X9_again_31 (zv_ev 10) g1 h (nI s) (nI 101)))
        rw [if_pos (by decide), zw_cell _ _ _ (by decide), R1.1] at hs2
        have fr : ∀ x, x ≠ 116 → x ≠ 119 → zv_w g1 116 10 0 x = g x := fun x h1 h2 => (zw_cell _ _ _ h1).trans ((f1 x h2).trans (zw_cell _ _ _ h1))
        have fq : ∀ q, q ≠ 0 → q ≠ 10 → zv_w g1 116 10 0 116 q = g 116 q := fun q h1 h2 => by rw [zw_other _ _ _ h2, f1 116 (by decide), zw_other _ _ _ h1]
        exact ⟨zv_w g1 116 10 0, h, ⟨by rw [zw_cell _ _ _ (by decide)]; exact R1, zm2_of hB.2.1 (fq 2 (by decide) (by decide)) (fr 117 (by decide) (by decide)), ⟨zw_same _ _ _ _, fun i hi => absurd hi (Nat.not_lt_zero i)⟩, zm4_of hB.2.2.2.1 (fr 123 (by decide) (by decide)) (fr 124 (by decide) (by decide)), zm5_of hB.2.2.2.2.1 (fq 13 (by decide) (by decide)) (fun x h1 h2 => fr x (by omega) (by omega)), hB.2.2.2.2.2⟩, fun x hx => ⟨fr x (by omega) (by omega), rfl⟩, zs_X9_again hs2⟩
