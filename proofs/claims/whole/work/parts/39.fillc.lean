theorem ev_fill_3 {dp : Nat} (Dm : zv_D) (v : Int32) : ∃ g', (∀ x, x ≠ 3 → g' x = Dm.1 x) ∧ (∀ q, q < 25 → g' 3 q = v) ∧ zv_ev (dp + 1) 1 [.ref 3, .int v] zS0 Dm = zo_v (g', Dm.2) := by
  obtain ⟨g1, ⟨f1, i1⟩, r1⟩ := zl_up (fun k (s : Nat → Nat → Int32) => zv_m zt_J_fill (zv_ev dp) false 5 [some (.ref 3), some (.int v), some (.int (nI k)), some (.int (nI 25))] [] zS0 (s, Dm.2)) 25 (fun k s => (∀ x, x ≠ 3 → s x = Dm.1 x) ∧ ∀ q, q < k → s 3 q = v) (by
    intro k s hk ⟨hf, hi⟩
    have hst := zd_J_fill_c3_5 (zv_ev dp) s Dm.2 v (nI k) (nI 25)
    rw [if_neg (nI_ge hk (by decide)), zi_in hk (by decide), nI_clamp (by omega), nI_1] at hst
    refine ⟨_, ⟨fun x hx => (zw_cell _ _ _ hx).trans (hf x hx), fun q hq => ?_⟩, hst⟩
    by_cases hqk : q = k
    · subst hqk; exact zw_same _ _ _ _
    · rw [zw_other _ _ _ hqk]; exact hi q (by omega)) Dm.1 ⟨fun _ _ => rfl, fun q hq => absurd hq (Nat.not_lt_zero q)⟩
  refine ⟨g1, f1, i1, zs_J_fill_c3 ((zd_J_fill_c3 _ Dm.1 Dm.2 _).trans (r1.trans ?_))⟩
  rw [zd_J_fill_c3_5, if_pos (nI_le (Nat.le_refl _) (by decide))]
theorem ev_fill_4 {dp : Nat} (Dm : zv_D) (v : Int32) : ∃ g', (∀ x, x ≠ 4 → g' x = Dm.1 x) ∧ (∀ q, q < 25 → g' 4 q = v) ∧ zv_ev (dp + 1) 1 [.ref 4, .int v] zS0 Dm = zo_v (g', Dm.2) := by
  obtain ⟨g1, ⟨f1, i1⟩, r1⟩ := zl_up (fun k (s : Nat → Nat → Int32) => zv_m zt_J_fill (zv_ev dp) false 5 [some (.ref 4), some (.int v), some (.int (nI k)), some (.int (nI 25))] [] zS0 (s, Dm.2)) 25 (fun k s => (∀ x, x ≠ 4 → s x = Dm.1 x) ∧ ∀ q, q < k → s 4 q = v) (by
    intro k s hk ⟨hf, hi⟩
    have hst := zd_J_fill_c4_5 (zv_ev dp) s Dm.2 v (nI k) (nI 25)
    rw [if_neg (nI_ge hk (by decide)), zi_in hk (by decide), nI_clamp (by omega), nI_1] at hst
    refine ⟨_, ⟨fun x hx => (zw_cell _ _ _ hx).trans (hf x hx), fun q hq => ?_⟩, hst⟩
    by_cases hqk : q = k
    · subst hqk; exact zw_same _ _ _ _
    · rw [zw_other _ _ _ hqk]; exact hi q (by omega)) Dm.1 ⟨fun _ _ => rfl, fun q hq => absurd hq (Nat.not_lt_zero q)⟩
  refine ⟨g1, f1, i1, zs_J_fill_c4 ((zd_J_fill_c4 _ Dm.1 Dm.2 _).trans (r1.trans ?_))⟩
  rw [zd_J_fill_c4_5, if_pos (nI_le (Nat.le_refl _) (by decide))]
theorem ev_fill_20 {dp : Nat} (Dm : zv_D) (v : Int32) : ∃ g', (∀ x, x ≠ 20 → g' x = Dm.1 x) ∧ (∀ q, q < 5 → g' 20 q = v) ∧ zv_ev (dp + 1) 1 [.ref 20, .int v] zS0 Dm = zo_v (g', Dm.2) := by
  obtain ⟨g1, ⟨f1, i1⟩, r1⟩ := zl_up (fun k (s : Nat → Nat → Int32) => zv_m zt_J_fill (zv_ev dp) false 5 [some (.ref 20), some (.int v), some (.int (nI k)), some (.int (nI 5))] [] zS0 (s, Dm.2)) 5 (fun k s => (∀ x, x ≠ 20 → s x = Dm.1 x) ∧ ∀ q, q < k → s 20 q = v) (by
    intro k s hk ⟨hf, hi⟩
    have hst := zd_J_fill_c20_5 (zv_ev dp) s Dm.2 v (nI k) (nI 5)
    rw [if_neg (nI_ge hk (by decide)), zi_in hk (by decide), nI_clamp (by omega), nI_1] at hst
    refine ⟨_, ⟨fun x hx => (zw_cell _ _ _ hx).trans (hf x hx), fun q hq => ?_⟩, hst⟩
    by_cases hqk : q = k
    · subst hqk; exact zw_same _ _ _ _
    · rw [zw_other _ _ _ hqk]; exact hi q (by omega)) Dm.1 ⟨fun _ _ => rfl, fun q hq => absurd hq (Nat.not_lt_zero q)⟩
  refine ⟨g1, f1, i1, zs_J_fill_c20 ((zd_J_fill_c20 _ Dm.1 Dm.2 _).trans (r1.trans ?_))⟩
  rw [zd_J_fill_c20_5, if_pos (nI_le (Nat.le_refl _) (by decide))]
theorem ev_fill_31 {dp : Nat} (Dm : zv_D) (v : Int32) : ∃ g', (∀ x, x ≠ 31 → g' x = Dm.1 x) ∧ (∀ q, q < 5 → g' 31 q = v) ∧ zv_ev (dp + 1) 1 [.ref 31, .int v] zS0 Dm = zo_v (g', Dm.2) := by
  obtain ⟨g1, ⟨f1, i1⟩, r1⟩ := zl_up (fun k (s : Nat → Nat → Int32) => zv_m zt_J_fill (zv_ev dp) false 5 [some (.ref 31), some (.int v), some (.int (nI k)), some (.int (nI 5))] [] zS0 (s, Dm.2)) 5 (fun k s => (∀ x, x ≠ 31 → s x = Dm.1 x) ∧ ∀ q, q < k → s 31 q = v) (by
    intro k s hk ⟨hf, hi⟩
    have hst := zd_J_fill_c31_5 (zv_ev dp) s Dm.2 v (nI k) (nI 5)
    rw [if_neg (nI_ge hk (by decide)), zi_in hk (by decide), nI_clamp (by omega), nI_1] at hst
    refine ⟨_, ⟨fun x hx => (zw_cell _ _ _ hx).trans (hf x hx), fun q hq => ?_⟩, hst⟩
    by_cases hqk : q = k
    · subst hqk; exact zw_same _ _ _ _
    · rw [zw_other _ _ _ hqk]; exact hi q (by omega)) Dm.1 ⟨fun _ _ => rfl, fun q hq => absurd hq (Nat.not_lt_zero q)⟩
  refine ⟨g1, f1, i1, zs_J_fill_c31 ((zd_J_fill_c31 _ Dm.1 Dm.2 _).trans (r1.trans ?_))⟩
  rw [zd_J_fill_c31_5, if_pos (nI_le (Nat.le_refl _) (by decide))]
theorem ev_fill_23 {dp : Nat} (Dm : zv_D) (v : Int32) : ∃ g', (∀ x, x ≠ 23 → g' x = Dm.1 x) ∧ (∀ q, q < 80 → g' 23 q = v) ∧ zv_ev (dp + 1) 1 [.ref 23, .int v] zS0 Dm = zo_v (g', Dm.2) := by
  obtain ⟨g1, ⟨f1, i1⟩, r1⟩ := zl_up (fun k (s : Nat → Nat → Int32) => zv_m zt_J_fill (zv_ev dp) false 5 [some (.ref 23), some (.int v), some (.int (nI k)), some (.int (nI 80))] [] zS0 (s, Dm.2)) 80 (fun k s => (∀ x, x ≠ 23 → s x = Dm.1 x) ∧ ∀ q, q < k → s 23 q = v) (by
    intro k s hk ⟨hf, hi⟩
    have hst := zd_J_fill_c23_5 (zv_ev dp) s Dm.2 v (nI k) (nI 80)
    rw [if_neg (nI_ge hk (by decide)), zi_in hk (by decide), nI_clamp (by omega), nI_1] at hst
    refine ⟨_, ⟨fun x hx => (zw_cell _ _ _ hx).trans (hf x hx), fun q hq => ?_⟩, hst⟩
    by_cases hqk : q = k
    · subst hqk; exact zw_same _ _ _ _
    · rw [zw_other _ _ _ hqk]; exact hi q (by omega)) Dm.1 ⟨fun _ _ => rfl, fun q hq => absurd hq (Nat.not_lt_zero q)⟩
  refine ⟨g1, f1, i1, zs_J_fill_c23 ((zd_J_fill_c23 _ Dm.1 Dm.2 _).trans (r1.trans ?_))⟩
  rw [zd_J_fill_c23_5, if_pos (nI_le (Nat.le_refl _) (by decide))]
theorem ev_fill_34 {dp : Nat} (Dm : zv_D) (v : Int32) : ∃ g', (∀ x, x ≠ 34 → g' x = Dm.1 x) ∧ (∀ q, q < 80 → g' 34 q = v) ∧ zv_ev (dp + 1) 1 [.ref 34, .int v] zS0 Dm = zo_v (g', Dm.2) := by
  obtain ⟨g1, ⟨f1, i1⟩, r1⟩ := zl_up (fun k (s : Nat → Nat → Int32) => zv_m zt_J_fill (zv_ev dp) false 5 [some (.ref 34), some (.int v), some (.int (nI k)), some (.int (nI 80))] [] zS0 (s, Dm.2)) 80 (fun k s => (∀ x, x ≠ 34 → s x = Dm.1 x) ∧ ∀ q, q < k → s 34 q = v) (by
    intro k s hk ⟨hf, hi⟩
    have hst := zd_J_fill_c34_5 (zv_ev dp) s Dm.2 v (nI k) (nI 80)
    rw [if_neg (nI_ge hk (by decide)), zi_in hk (by decide), nI_clamp (by omega), nI_1] at hst
    refine ⟨_, ⟨fun x hx => (zw_cell _ _ _ hx).trans (hf x hx), fun q hq => ?_⟩, hst⟩
    by_cases hqk : q = k
    · subst hqk; exact zw_same _ _ _ _
    · rw [zw_other _ _ _ hqk]; exact hi q (by omega)) Dm.1 ⟨fun _ _ => rfl, fun q hq => absurd hq (Nat.not_lt_zero q)⟩
  refine ⟨g1, f1, i1, zs_J_fill_c34 ((zd_J_fill_c34 _ Dm.1 Dm.2 _).trans (r1.trans ?_))⟩
  rw [zd_J_fill_c34_5, if_pos (nI_le (Nat.le_refl _) (by decide))]
theorem ev_forgetPicks_16 {dp : Nat} (Dm : zv_D) : ∃ g', (∀ x, x ≠ 23 → g' x = Dm.1 x) ∧ (∀ k, k < 80 → g' 23 k = -2) ∧ zv_ev (dp + 2) 52 [.ref 16] zS0 Dm = zo_v (g', Dm.2) := by
  obtain ⟨g', f, i, r⟩ := ev_fill_23 (dp := dp) (Dm.1, Dm.2) (-2)
  refine ⟨g', f, i, zs_X6_forgetPicks_16 ((zd_X6_forgetPicks_16 _ Dm.1 Dm.2).trans ?_)⟩
  rw [r]
  rfl
theorem ev_forgetPicks_27 {dp : Nat} (Dm : zv_D) : ∃ g', (∀ x, x ≠ 34 → g' x = Dm.1 x) ∧ (∀ k, k < 80 → g' 34 k = -2) ∧ zv_ev (dp + 2) 52 [.ref 27] zS0 Dm = zo_v (g', Dm.2) := by
  obtain ⟨g', f, i, r⟩ := ev_fill_34 (dp := dp) (Dm.1, Dm.2) (-2)
  refine ⟨g', f, i, zs_X6_forgetPicks_27 ((zd_X6_forgetPicks_27 _ Dm.1 Dm.2).trans ?_)⟩
  rw [r]
  rfl
theorem ev_forgetChoices_17 {dp : Nat} (Dm : zv_D) : ∃ g', (∀ x, x ≠ 20 → g' x = Dm.1 x) ∧ (∀ k, k < 5 → g' 20 k = 0) ∧ zv_ev (dp + 2) 70 [.ref 17] zS0 Dm = zo_v (g', Dm.2) := by
  obtain ⟨g', f, i, r⟩ := ev_fill_20 (dp := dp) (Dm.1, Dm.2) 0
  refine ⟨g', f, i, zs_X7_forgetChoices_17 ((zd_X7_forgetChoices_17 _ Dm.1 Dm.2).trans ?_)⟩
  rw [r]
  rfl
theorem ev_forgetChoices_28 {dp : Nat} (Dm : zv_D) : ∃ g', (∀ x, x ≠ 31 → g' x = Dm.1 x) ∧ (∀ k, k < 5 → g' 31 k = 0) ∧ zv_ev (dp + 2) 70 [.ref 28] zS0 Dm = zo_v (g', Dm.2) := by
  obtain ⟨g', f, i, r⟩ := ev_fill_31 (dp := dp) (Dm.1, Dm.2) 0
  refine ⟨g', f, i, zs_X7_forgetChoices_28 ((zd_X7_forgetChoices_28 _ Dm.1 Dm.2).trans ?_)⟩
  rw [r]
  rfl
theorem zi_min {a b : Nat} (ha : a < 2 ^ 31) (hb : b < 2 ^ 31) : (if nI a < nI b then nI a else nI b) = nI (min b a) := by
  by_cases h : a < b
  · rw [if_pos ((nI_ltI ha hb).mpr h), Nat.min_eq_right (by omega)]
  · rw [if_neg (fun z => h ((nI_ltI ha hb).mp z)), Nat.min_eq_left (by omega)]
theorem za_d_row (co : Nat → Nat) (o j : Nat) : za_d co (o + 1) o j = za_d co o o j := by
  rw [za_d_s, za_d_self, Nat.zero_add, Nat.min_self]
theorem ev_findNear {dp : Nat} {Dm : zv_D} {T : zT} {X : zX} (hT : zT_ok T) (hm : Dm.1 9 1 = nI (zT_m T)) (hpl : ∀ e, e < 4 → Dm.1 12 e = nI (zT_pl T e)) (hd : ∀ i j, i < 5 → j < 5 → Dm.1 22 (5 * i + j) = nI (za_di (zX_co X) i j)) (hX : ∀ k, zX_co X k ≤ 9) :
    ∃ g', (∀ x, x ≠ 21 → g' x = Dm.1 x) ∧ (∀ i, i < 5 → g' 21 i = nI (zf_set (za_nr T X i))) ∧ zv_ev (dp + 2) 54 [.ref 16] zS0 Dm = zo_v (g', Dm.2) := by
  have h4 := hT.2.2.1
  obtain ⟨⟨g1, u1⟩, ⟨f1, i1⟩, r1⟩ := zl_up (σ := (Nat → Nat → Int32) × Option Value) (fun k s => zv_m zt_X6_findNear (zv_ev (dp + 1)) false 2 [some (.ref 16), some (.int (nI k)), s.2] [] zS0 (s.1, Dm.2)) 5 (fun k s => (∀ x, x ≠ 21 → s.1 x = Dm.1 x) ∧ ∀ i, i < k → s.1 21 i = nI (zf_set (za_nr T X i))) (by
    rintro i ⟨s, u⟩ hi ⟨hf, hn⟩
    dsimp only at hf hn
    have hst := zd_X6_findNear_16_2 (zv_ev (dp + 1)) s Dm.2 (nI i) u
    rw [if_neg (zi_ge 5 5 rfl hi (by decide)), zi_in hi (by decide), nI_clamp (by omega), cond_true] at hst
    obtain ⟨g2, ⟨f2, o2, v2⟩, r2⟩ := zl_up (fun e (t : Nat → Nat → Int32) => zv_m zt_X6_findNear (zv_ev (dp + 1)) false 16 [some (.ref 16), some (.int (nI i)), some (.int (nI e))] [] zS0 (t, Dm.2)) (zT_m T) (fun e t => (∀ x, x ≠ 21 → t x = Dm.1 x) ∧ (∀ q, q ≠ i → t 21 q = s 21 q) ∧ t 21 i = nI (zf_set fun e' => decide (e' < e) && za_nr T X i e')) (by
      intro e t he ⟨tf, to, tv⟩
      have e4 : e < 4 := by omega
      have hst := zd_X6_findNear_16_16 (zv_ev (dp + 1)) t Dm.2 (nI i) (nI e)
      rw [tf 9 (by decide), hm, if_neg (nI_ge he (by omega)), if_neg (zi_ge 4 4 rfl e4 (by decide)), zi_in hi (by decide), zi_in e4 (by decide), nI_clamp (by omega), nI_clamp (by omega), tf 12 (by decide), hpl e e4, ev_distance_16 (dp := dp) (t, Dm.2) hi (hT.2.2.2.2.2.2.1 e), nI_1, zi_sh (by omega), tv] at hst
      simp only [Option.bind_some, cond_true] at hst
      rw [tf 22 (by decide), hd i _ hi (hT.2.2.2.2.2.2.1 e)] at hst
      have l1 := zf_set_lt (fun e' => decide (e' < e) && za_nr T X i e')
      have l2 := z2k e4
      have hfin := za_di_fin hX i (zT_pl T e)
      have go : ∀ v : Int32, v = nI (zf_set fun e' => decide (e' < e + 1) && za_nr T X i e') → (∀ x, x ≠ 21 → zv_w t 21 i v x = Dm.1 x) ∧ (∀ q, q ≠ i → zv_w t 21 i v 21 q = s 21 q) ∧ zv_w t 21 i v 21 i = nI (zf_set fun e' => decide (e' < e + 1) && za_nr T X i e') := fun v hv => ⟨fun x hx => (zw_cell _ _ _ hx).trans (tf x hx), fun q hq => by rw [zw_other _ _ _ hq]; exact to q hq, by rw [zw_same, hv]⟩
      by_cases hb : za_di (zX_co X) i (zT_pl T e) < 1000
      · rw [if_neg (zi_ge 1000 1000 rfl hb (by decide))] at hst
        refine ⟨_, go _ ?_, hst⟩
        rw [zi_or (by omega) (by omega), zf_pre_s (p := za_nr T X i) e4, if_pos (by unfold za_nr; simp [he, hb])]
      · rw [if_pos (zi_le 1000 1000 rfl (by omega) (by omega))] at hst
        refine ⟨_, go _ ?_, hst⟩
        rw [zf_pre_s (p := za_nr T X i) e4, if_neg (by unfold za_nr; simp [hb]), Int32.or_zero, Nat.or_zero]) (zv_w s 21 i 0) ⟨fun x hx => (zw_cell _ _ _ hx).trans (hf x hx), fun q hq => zw_other _ _ _ hq, by rw [zw_same, zf_pre_0 (p := za_nr T X i)]; rfl⟩
    have hst2 := zd_X6_findNear_16_16 (zv_ev (dp + 1)) g2 Dm.2 (nI i) (nI (zT_m T))
    rw [f2 9 (by decide), hm, if_pos (nI_le (Nat.le_refl _) (by omega)), nI_1] at hst2
    refine ⟨(g2, _), ⟨f2, fun q hq => ?_⟩, hst.trans (r2.trans hst2)⟩
    dsimp only
    by_cases hqi : q = i
    · subst hqi
      rw [v2]
      congr 2
      funext e'
      unfold za_nr
      by_cases h : e' < zT_m T
      · simp [h]
      · simp [h]
    · rw [o2 q hqi]; exact hn q (by omega)) (Dm.1, none) ⟨fun _ _ => rfl, fun q hq => absurd hq (Nat.not_lt_zero q)⟩
  dsimp only at f1 i1 r1
  refine ⟨g1, f1, i1, zs_X6_findNear_16 ((zd_X6_findNear_16 _ Dm.1 Dm.2).trans (r1.trans ?_))⟩
  rw [zd_X6_findNear_16_2, if_pos (zi_le 5 5 rfl (by decide) (by decide))]
