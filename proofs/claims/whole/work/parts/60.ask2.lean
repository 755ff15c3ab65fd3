theorem go_ex {kc km : Nat} {a : Int32} {As : List Value} {Z : zZ} (ok : zOK Z) (hc1 : ∀ g h, zBC g h Z → zv_in a (zT_m Z.1.1) = false → zv_ev 11 kc (.ref 0 :: As) zS0 (g, h) = zo_i (-1) (g, h)) (hm1 : ∀ g h, zBM g h Z → zv_in a (zT_m Z.1.1) = false → zv_ev 11 km (.ref 116 :: As) zS0 (g, h) = zo_i (-1) (zv_w g 116 0 0, h)) (H : ∀ i, i < zT_m Z.1.1 → a = nI i → ∃ v Z', zOK Z' ∧ zCl kc As Z v Z' ∧ zMd km As Z v Z') : ∃ v Z', zOK Z' ∧ zCl kc As Z v Z' ∧ zMd km As Z v Z' := by
  cases ha : zv_in a (zT_m Z.1.1) with
  | false => exact ⟨(-1, 0, 0), Z, ok, zCl_q fun g h hB => ⟨g, hB.1, fun _ _ => rfl, hc1 g h hB ha⟩, zMd_q fun g h hB => ⟨_, zN_0 g, hm1 g h hB ha⟩⟩
  | true =>
    obtain ⟨i, hi, ei⟩ := zi_of ha
    exact H i hi ei
theorem go_exit (a c : Int32) : zGo 87 155 [.int a, .int c] := by
  intro Z ok
  have h4 := ok.1.1.2.2.1
  refine go_ex (a := a) ok (fun g h hB ha => zs_X8_exit ?_) (fun g h hB ha => zs_X9_exit ?_) ?_
  · rw [zd_X8_exit, ev_heF (dp := 9) hB ha]; rfl
  · rw [zd_X9_exit, ev_neF (dp := 8) ok (zBM_0 hB) ha]; rfl
  rintro i hi rfl
  have cl : ∀ g h, zBC g h Z → zv_m zt_X8_exit (zv_ev 10) false 0 [some (.ref 0), some (.int (nI i)), some (.int c)] [] zS0 (g, h) = (if c = 0 then zv_ri (nI (zT_pl Z.1.1 i)) zS0 (g, h) else if c = 1 then zv_ri (nI (zT_ne Z.1.1 i)) zS0 (g, h) else if c = 2 then zv_ri (nI (zT_pa Z.1.1 i)) zS0 (g, h) else if c = 3 then zv_ri (nI (zX_we Z.1.2.1 i)) zS0 (g, h) else if c = 4 then zv_ri ((nI (zX_up Z.1.2.1) >>> (nI i &&& 31)) &&& 1) zS0 (g, h) else zv_ri (-2) zS0 (g, h)) := by
    intro g h hB
    have hst := zd_X8_exit (zv_ev 10) g h (nI i) c
    rw [ev_heT (dp := 9) hB hi] at hst
    simp only [Option.bind_some] at hst
    rw [if_neg (by decide), zi_in (n := 4) (by omega) (by decide), nI_clamp (by omega), show g 12 i = nI (zT_pl Z.1.1 i) from hB.1.2.2.2.1.2.2.2.1 i (by omega), show g 13 i = nI (zT_ne Z.1.1 i) from hB.1.2.2.2.1.2.2.2.2.1 i (by omega), show g 14 i = nI (zT_pa Z.1.1 i) from hB.1.2.2.2.1.2.2.2.2.2.1 i (by omega), show g 19 i = nI (zX_we Z.1.2.1 i) from hB.1.2.2.2.2.1.2.1 i (by omega), show g 17 3 = nI (zX_up Z.1.2.1) from hB.1.2.2.2.2.1.2.2.2.1] at hst
    exact hst
  rcases zi_rng (a := c) (n := 4) (by decide) 4 rfl with ⟨hc, hx⟩ | ⟨w, hw, rfl, k1, k2, k3, hc⟩
  · refine ⟨(-2, 0, 0), Z, ok, zCl_q fun g h hB => ⟨g, hB.1, fun _ _ => rfl, zs_X8_exit ((cl g h hB).trans ?_)⟩, zMd_q fun g h hB => ?_⟩
    · rw [if_neg (show ¬ c = 0 from zi_nin (by decide) hc (k := 0) (by decide)), if_neg (show ¬ c = 1 from zi_nin (by decide) hc (k := 1) (by decide)), if_neg (show ¬ c = 2 from zi_nin (by decide) hc (k := 2) (by decide)), if_neg (show ¬ c = 3 from zi_nin (by decide) hc (k := 3) (by decide)), if_neg (show ¬ c = 4 from zi_nin (by decide) hc (k := 4) (by decide))]
    · have hst := zd_X9_exit (zv_ev 10) g h (nI i) c
      rw [ev_neT (dp := 8) ok (zBM_0 hB) hi] at hst
      simp only [Option.bind_some] at hst
      rw [if_pos trivial, ev_inr (dp := 9) (zv_w g 116 0 0, h) 4 c 4 rfl (by decide), if_neg hc] at hst
      exact ⟨_, zN_0 g, zs_X9_exit hst⟩
  · have md : ∀ g h, zBM g h Z → zv_m zt_X9_exit (zv_ev 10) false 0 [some (.ref 116), some (.int (nI i)), some (.int (nI w))] [] zS0 (g, h) = (if (4 : Int32) ≤ nI w then zv_ri ((nI (zX_up Z.1.2.1) >>> (nI i &&& 31)) &&& 1) zS0 (zv_w g 116 0 0, h) else ((zv_ev 10 154 [.ref 119, .int (nI i), .int (nI w)] zS0 (zv_w g 116 0 0, h)).bind fun p6 => zv_ri p6.1.1 zS0 p6.2)) := by
      intro g h hB
      have hst := zd_X9_exit (zv_ev 10) g h (nI i) (nI w)
      rw [ev_neT (dp := 8) ok (zBM_0 hB) hi] at hst
      simp only [Option.bind_some] at hst
      rw [if_pos trivial, ev_inr (dp := 9) (zv_w g 116 0 0, h) 4 (nI w) 4 rfl (by decide), if_pos hc] at hst
      simp only [Option.bind_some] at hst
      rw [if_neg (by decide), show zv_w g 116 0 0 119 2 = nI (zX_up Z.1.2.1) from (zBM_0 hB).1.2.2.1] at hst
      exact hst
    have hR := fun g h (hB : zBM g h Z) => (zBM_0 hB).1.2.2.2.2.2.2.2.1 i hi
    by_cases w4 : w = 4
    · subst w4
      refine ⟨_, Z, ok, zCl_q fun g h hB => ⟨g, hB.1, fun _ _ => rfl, zs_X8_exit (cl g h hB)⟩, zMd_q fun g h hB => ⟨_, zN_0 g, zs_X9_exit ((md g h hB).trans (if_pos (by decide)))⟩⟩
    · have ex : ∀ (v : Nat), (∀ g h, zBC g h Z → zv_m zt_X8_exit (zv_ev 10) false 0 [some (.ref 0), some (.int (nI i)), some (.int (nI w))] [] zS0 (g, h) = zv_ri (nI v) zS0 (g, h)) → (∀ g h, zBM g h Z → zv_w g 116 0 0 119 (55 + 4 * i + w) = nI v) → ∃ v Z', zOK Z' ∧ zCl 87 [.int (nI i), .int (nI w)] Z v Z' ∧ zMd 155 [.int (nI i), .int (nI w)] Z v Z' := by
        intro v h1 h2
        refine ⟨(nI v, 0, 0), Z, ok, zCl_q fun g h hB => ⟨g, hB.1, fun _ _ => rfl, zs_X8_exit (h1 g h hB)⟩, zMd_q fun g h hB => ?_⟩
        have hst := md g h hB
        rw [if_neg (zi_ge 4 4 rfl (by omega) (by decide)), ev_mexitOf_119 (dp := 9) (zv_w g 116 0 0, h) (e := i) (w := w) (by omega) (by omega)] at hst
        simp only [Option.bind_some] at hst
        rw [h2 g h hB] at hst
        exact ⟨_, zN_0 g, zs_X9_exit hst⟩
      have : w = 0 ∨ w = 1 ∨ w = 2 ∨ w = 3 := by omega
      rcases this with rfl | rfl | rfl | rfl
      · exact ex _ (fun g h hB => cl g h hB) (fun g h hB => (hR g h hB).1)
      · exact ex _ (fun g h hB => cl g h hB) (fun g h hB => (hR g h hB).2.1)
      · exact ex _ (fun g h hB => cl g h hB) (fun g h hB => (hR g h hB).2.2.1)
      · exact ex _ (fun g h hB => cl g h hB) (fun g h hB => (hR g h hB).2.2.2)
theorem go_choice (a b c : Int32) : zGo 96 180 [.int a, .int b, .int c] := by
  intro Z ok
  have h5 := ok.1.1.2.1
  refine go_one (a := a) ok (fun g h hB ha => zs_X8_choice ?_) (fun g h hB ha => zs_X9_choice ?_) ?_
  · rw [zd_X8_choice, ev_hrF (dp := 9) hB ha]; rfl
  · rw [zd_X9_choice, ev_nrF (dp := 8) ok (zBM_0 hB) ha]; rfl
  rintro i hi rfl
  have i5 : i < 5 := by omega
  have a0 := za_R_lt (ok.1.2.2.1 i 0)
  have a1 := za_R_lt (ok.1.2.2.1 i 1)
  have cl := fun g h (hB : zBC g h Z) (b c : Int32) => by
    have hst := zd_X8_choice (zv_ev 10) g h (nI i) b c
    have c8 : g 20 i = nI (Z.1.2.2 i 0 + 2048 * Z.1.2.2 i 1) := hB.1.2.2.2.2.1.2.2.1 i i5
    rw [ev_hrT (dp := 9) hB hi] at hst
    simp only [Option.bind_some] at hst
    rw [if_neg (by decide), ev_firstRoute_17 (dp := 9) (g, h) i5, ev_secondRoute_17 (dp := 9) (g, h) i5] at hst
    simp only [Option.bind_some] at hst
    rw [c8, zi_lo (by omega), show (Z.1.2.2 i 0 + 2048 * Z.1.2.2 i 1) % 2048 = Z.1.2.2 i 0 by omega, zi_hi (by omega), zi_lo (by omega), show (Z.1.2.2 i 0 + 2048 * Z.1.2.2 i 1) / 2048 % 2048 = Z.1.2.2 i 1 by omega, ev_exitOf (dp := 9) (g, h), ev_exitOf (dp := 9) (g, h), ev_fromOf (dp := 9) (g, h), ev_fromOf (dp := 9) (g, h), zi_e a0, zi_e a1, zi_f a0, zi_f a1, zi_m (by omega), zi_m (by omega)] at hst
    simp only [Option.bind_some] at hst
    exact hst
  have md := fun g h (hB : zBM g h Z) (b c : Int32) => by
    have hst := zd_X9_choice (zv_ev 10) g h (nI i) b c
    rw [ev_nrT (dp := 8) ok (zBM_0 hB) hi] at hst
    simp only [Option.bind_some] at hst
    rw [if_pos trivial, ev_inr (dp := 9) (zv_w g 116 0 0, h) 1 b 1 rfl (by decide)] at hst
    simp only [Option.bind_some] at hst
    rw [ev_inr (dp := 9) (zv_w g 116 0 0, h) 2 c 2 rfl (by decide)] at hst
    simp only [Option.bind_some] at hst
    exact hst
  rcases zi_rng (a := b) (n := 1) (by decide) 1 rfl with ⟨hb, hx⟩ | ⟨k, hk, rfl, k1, k2, k3, hb⟩
  · refine ⟨(-2, 0, 0), Z, ok, zCl_q fun g h hB => ⟨g, hB.1, fun _ _ => rfl, zs_X8_choice ((cl g h hB b c).trans ?_)⟩, zMd_q fun g h hB => ⟨_, zN_0 g, zs_X9_choice ((md g h hB b c).trans ?_)⟩⟩
    · rcases hx with hx | ⟨hx, _, hy⟩
      · rw [if_pos hx]
      · rw [if_neg hx, if_pos hy]
    · rw [if_neg hb, if_pos rfl]
  rcases zi_rng (a := c) (n := 2) (by decide) 2 rfl with ⟨hc, hx⟩ | ⟨w, hw, rfl, l1, l2, l3, hc⟩
  · refine ⟨(-2, 0, 0), Z, ok, zCl_q fun g h hB => ⟨g, hB.1, fun _ _ => rfl, zs_X8_choice ((cl g h hB (nI k) c).trans ?_)⟩, zMd_q fun g h hB => ⟨_, zN_0 g, zs_X9_choice ((md g h hB (nI k) c).trans ?_)⟩⟩
    · rw [if_neg k1, if_neg k3]
      rcases hx with hx | ⟨hx, hy, _⟩
      · rw [if_pos hx]
      · rw [if_neg hx, if_neg hy]
    · rw [if_pos hb, if_neg (by decide), if_neg hc, if_pos rfl]
  refine ⟨(zm_t (Z.1.2.2 i) (3 * k + w), 0, 0), Z, ok, zCl_q fun g h hB => ⟨g, hB.1, fun _ _ => rfl, zs_X8_choice ((cl g h hB (nI k) (nI w)).trans ?_)⟩, zMd_q fun g h hB => ⟨_, zN_0 g, zs_X9_choice ((md g h hB (nI k) (nI w)).trans ?_)⟩⟩
  · rw [if_neg k1, if_neg k3, if_neg l1, if_pos l2]
    have e0 : zm_t (Z.1.2.2 i) (3 * 0) = _ := zm_t0 (Z.1.2.2 i) 0
    have e1 : zm_t (Z.1.2.2 i) (3 * 0 + 1) = _ := zm_t1 (Z.1.2.2 i) 0
    have e2 : zm_t (Z.1.2.2 i) (3 * 0 + 2) = _ := zm_t2 (Z.1.2.2 i) 0
    have e3 : zm_t (Z.1.2.2 i) (3 * 1) = _ := zm_t0 (Z.1.2.2 i) 1
    have e4 : zm_t (Z.1.2.2 i) (3 * 1 + 1) = _ := zm_t1 (Z.1.2.2 i) 1
    have e5 : zm_t (Z.1.2.2 i) (3 * 1 + 2) = _ := zm_t2 (Z.1.2.2 i) 1
    have hk : k = 0 ∨ k = 1 := by omega
    have hw : w = 0 ∨ w = 1 ∨ w = 2 := by omega
    rcases hk with rfl | rfl
    · rw [if_pos (show nI 0 = 0 from rfl)]
      by_cases h0 : Z.1.2.2 i 0 = 0
      · rw [if_pos ((zi_0 (by omega)).mpr h0)]
        rcases hw with rfl | rfl | rfl
        · rw [show 3 * 0 + 0 = 3 * 0 from rfl, e0, zm_v0 h0]
        · rw [e1, zm_v0 h0]
        · rw [e2, zm_v0 h0]
      · rw [if_neg (fun z => h0 ((zi_0 (by omega)).mp z))]
        rcases hw with rfl | rfl | rfl
        · rw [show 3 * 0 + 0 = 3 * 0 from rfl, e0, zm_v1 h0]; rfl
        · rw [e1, zm_v1 h0]; rfl
        · rw [e2, zm_v1 h0]; rfl
    · rw [if_neg (show ¬ nI 1 = 0 by decide)]
      by_cases h0 : Z.1.2.2 i 1 = 0
      · rw [if_pos ((zi_0 (by omega)).mpr h0)]
        rcases hw with rfl | rfl | rfl
        · rw [show 3 * 1 + 0 = 3 * 1 from rfl, e3, zm_v0 h0]
        · rw [e4, zm_v0 h0]
        · rw [e5, zm_v0 h0]
      · rw [if_neg (fun z => h0 ((zi_0 (by omega)).mp z))]
        rcases hw with rfl | rfl | rfl
        · rw [show 3 * 1 + 0 = 3 * 1 from rfl, e3, zm_v1 h0]; rfl
        · rw [e4, zm_v1 h0]; rfl
        · rw [e5, zm_v1 h0]; rfl
  · rw [if_pos hb, if_neg (by decide), if_pos hc, if_neg (by decide), ev_at (dp := 9) (zv_w g 116 0 0, h), zx_at]
    simp only [Option.bind_some]
    rw [nI_add, zi_in (n := 101) (by omega) (by decide), nI_clamp (by omega), show 71 + 6 * i + 3 * k + w = 71 + 6 * i + (3 * k + w) by omega, zM_R_t (zBM_0 hB).1 i5 (by omega)]
    rfl
