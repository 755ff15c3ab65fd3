/-! ===== pages ===== -/
theorem zM_R_of {r r' : Nat → Int32} {T : zT} {X : zX} {A : zA} (h : zM_R r T X A) (h1 : ∀ k, k < 101 → r' k = r k) (hm : zT_m T ≤ 4) : zM_R r' T X A :=
  zM_R_mk h (fun q hq => h1 q (by omega)) (fun j q hj hq => by rw [h1 _ (by omega)]; exact zM_R_t h hj hq) hm
def zA_0 : zA := fun _ _ => 0
theorem zA_0_W (T : zT) : za_W T zA_0 := ⟨fun _ _ => Or.inl rfl, fun _ _ => rfl, fun _ _ _ => rfl⟩
theorem zm_t_0 (j q : Nat) : zm_t (zA_0 j) q = -9 := zm_v0 rfl
theorem zM_R_clear {r r' : Nat → Int32} {T : zT} {X : zX} {A : zA} (h : zM_R r T X A) (h1 : ∀ k, k < 71 → r' k = r k) (h2 : ∀ k, 71 ≤ k → k < 101 → r' k = -9) (hm : zT_m T ≤ 4) : zM_R r' T X zA_0 :=
  zM_R_mk h h1 (fun j q hj hq => by rw [h2 _ (by omega) (by omega), zm_t_0]) hm
theorem ev_lay_119_118 {dp : Nat} (Dm : zv_D) : ∃ g', (∀ x, x ≠ 119 → g' x = Dm.1 x) ∧ (∀ k, k < 101 → g' 119 k = Dm.1 118 k) ∧ zv_ev (dp + 1) 134 [.ref 119, .ref 118] zS0 Dm = zo_v (g', Dm.2) := by
  obtain ⟨g1, ⟨f1, i1⟩, r1⟩ := zl_up (fun k (s : Nat → Nat → Int32) => zv_m zt_X9_lay (zv_ev dp) false 2 [some (.ref 119), some (.ref 118), some (.int (nI k))] [] zS0 (s, Dm.2)) 101 (fun k s => (∀ x, x ≠ 119 → s x = Dm.1 x) ∧ ∀ q, q < k → s 119 q = Dm.1 118 q) (by
    intro k s hk ⟨hf, hi⟩
    have hst := zd_X9_lay_119_118_2 (zv_ev dp) s Dm.2 (nI k)
    rw [if_neg (zi_ge 101 101 rfl hk (by decide)), zi_in hk (by decide), nI_clamp (by omega), nI_1] at hst
    simp only [cond_true] at hst
    refine ⟨_, ⟨fun x hx => (zw_cell _ _ _ hx).trans (hf x hx), fun q hq => ?_⟩, hst⟩
    by_cases hqk : q = k
    · subst hqk; rw [zw_same, hf 118 (by decide)]
    · rw [zw_other _ _ _ hqk]; exact hi q (by omega)) Dm.1 ⟨fun _ _ => rfl, fun q hq => absurd hq (Nat.not_lt_zero q)⟩
  refine ⟨g1, f1, i1, zs_X9_lay_119_118 ((zd_X9_lay_119_118 _ Dm.1 Dm.2).trans (r1.trans ?_))⟩
  rw [zd_X9_lay_119_118_2, if_pos (zi_le 101 101 rfl (by decide) (by decide))]
theorem ev_lay_121_119 {dp : Nat} (Dm : zv_D) : ∃ g', (∀ x, x ≠ 121 → g' x = Dm.1 x) ∧ (∀ k, k < 101 → g' 121 k = Dm.1 119 k) ∧ zv_ev (dp + 1) 134 [.ref 121, .ref 119] zS0 Dm = zo_v (g', Dm.2) := by
  obtain ⟨g1, ⟨f1, i1⟩, r1⟩ := zl_up (fun k (s : Nat → Nat → Int32) => zv_m zt_X9_lay (zv_ev dp) false 2 [some (.ref 121), some (.ref 119), some (.int (nI k))] [] zS0 (s, Dm.2)) 101 (fun k s => (∀ x, x ≠ 121 → s x = Dm.1 x) ∧ ∀ q, q < k → s 121 q = Dm.1 119 q) (by
    intro k s hk ⟨hf, hi⟩
    have hst := zd_X9_lay_121_119_2 (zv_ev dp) s Dm.2 (nI k)
    rw [if_neg (zi_ge 101 101 rfl hk (by decide)), zi_in hk (by decide), nI_clamp (by omega), nI_1] at hst
    simp only [cond_true] at hst
    refine ⟨_, ⟨fun x hx => (zw_cell _ _ _ hx).trans (hf x hx), fun q hq => ?_⟩, hst⟩
    by_cases hqk : q = k
    · subst hqk; rw [zw_same, hf 119 (by decide)]
    · rw [zw_other _ _ _ hqk]; exact hi q (by omega)) Dm.1 ⟨fun _ _ => rfl, fun q hq => absurd hq (Nat.not_lt_zero q)⟩
  refine ⟨g1, f1, i1, zs_X9_lay_121_119 ((zd_X9_lay_121_119 _ Dm.1 Dm.2).trans (r1.trans ?_))⟩
  rw [zd_X9_lay_121_119_2, if_pos (zi_le 101 101 rfl (by decide) (by decide))]
theorem ev_lay_120_119 {dp : Nat} (Dm : zv_D) : ∃ g', (∀ x, x ≠ 120 → g' x = Dm.1 x) ∧ (∀ k, k < 101 → g' 120 k = Dm.1 119 k) ∧ zv_ev (dp + 1) 134 [.ref 120, .ref 119] zS0 Dm = zo_v (g', Dm.2) := by
  obtain ⟨g1, ⟨f1, i1⟩, r1⟩ := zl_up (fun k (s : Nat → Nat → Int32) => zv_m zt_X9_lay (zv_ev dp) false 2 [some (.ref 120), some (.ref 119), some (.int (nI k))] [] zS0 (s, Dm.2)) 101 (fun k s => (∀ x, x ≠ 120 → s x = Dm.1 x) ∧ ∀ q, q < k → s 120 q = Dm.1 119 q) (by
    intro k s hk ⟨hf, hi⟩
    have hst := zd_X9_lay_120_119_2 (zv_ev dp) s Dm.2 (nI k)
    rw [if_neg (zi_ge 101 101 rfl hk (by decide)), zi_in hk (by decide), nI_clamp (by omega), nI_1] at hst
    simp only [cond_true] at hst
    refine ⟨_, ⟨fun x hx => (zw_cell _ _ _ hx).trans (hf x hx), fun q hq => ?_⟩, hst⟩
    by_cases hqk : q = k
    · subst hqk; rw [zw_same, hf 119 (by decide)]
    · rw [zw_other _ _ _ hqk]; exact hi q (by omega)) Dm.1 ⟨fun _ _ => rfl, fun q hq => absurd hq (Nat.not_lt_zero q)⟩
  refine ⟨g1, f1, i1, zs_X9_lay_120_119 ((zd_X9_lay_120_119 _ Dm.1 Dm.2).trans (r1.trans ?_))⟩
  rw [zd_X9_lay_120_119_2, if_pos (zi_le 101 101 rfl (by decide) (by decide))]
theorem ev_lay_121_120 {dp : Nat} (Dm : zv_D) : ∃ g', (∀ x, x ≠ 121 → g' x = Dm.1 x) ∧ (∀ k, k < 101 → g' 121 k = Dm.1 120 k) ∧ zv_ev (dp + 1) 134 [.ref 121, .ref 120] zS0 Dm = zo_v (g', Dm.2) := by
  obtain ⟨g1, ⟨f1, i1⟩, r1⟩ := zl_up (fun k (s : Nat → Nat → Int32) => zv_m zt_X9_lay (zv_ev dp) false 2 [some (.ref 121), some (.ref 120), some (.int (nI k))] [] zS0 (s, Dm.2)) 101 (fun k s => (∀ x, x ≠ 121 → s x = Dm.1 x) ∧ ∀ q, q < k → s 121 q = Dm.1 120 q) (by
    intro k s hk ⟨hf, hi⟩
    have hst := zd_X9_lay_121_120_2 (zv_ev dp) s Dm.2 (nI k)
    rw [if_neg (zi_ge 101 101 rfl hk (by decide)), zi_in hk (by decide), nI_clamp (by omega), nI_1] at hst
    simp only [cond_true] at hst
    refine ⟨_, ⟨fun x hx => (zw_cell _ _ _ hx).trans (hf x hx), fun q hq => ?_⟩, hst⟩
    by_cases hqk : q = k
    · subst hqk; rw [zw_same, hf 120 (by decide)]
    · rw [zw_other _ _ _ hqk]; exact hi q (by omega)) Dm.1 ⟨fun _ _ => rfl, fun q hq => absurd hq (Nat.not_lt_zero q)⟩
  refine ⟨g1, f1, i1, zs_X9_lay_121_120 ((zd_X9_lay_121_120 _ Dm.1 Dm.2).trans (r1.trans ?_))⟩
  rw [zd_X9_lay_121_120_2, if_pos (zi_le 101 101 rfl (by decide) (by decide))]
theorem ev_clear_118 {dp : Nat} (Dm : zv_D) : ∃ g', (∀ x, x ≠ 118 → g' x = Dm.1 x) ∧ (∀ k, k < 71 → g' 118 k = Dm.1 118 k) ∧ (∀ k, 71 ≤ k → k < 101 → g' 118 k = -9) ∧ zv_ev (dp + 1) 133 [.ref 118] zS0 Dm = zo_v (g', Dm.2) := by
  obtain ⟨g1, ⟨f1, o1, i1⟩, r1⟩ := zl_up (fun k (s : Nat → Nat → Int32) => zv_m zt_X9_clearChoices (zv_ev dp) false 3 [some (.ref 118), some (.int (nI (71 + k)))] [] zS0 (s, Dm.2)) 30 (fun k s => (∀ x, x ≠ 118 → s x = Dm.1 x) ∧ (∀ q, q < 71 → s 118 q = Dm.1 118 q) ∧ ∀ q, 71 ≤ q → q < 71 + k → s 118 q = -9) (by
    intro k s hk ⟨hf, ho, hi⟩
    have hst := zd_X9_clearChoices_p118_3 (zv_ev dp) s Dm.2 (nI (71 + k))
    rw [if_neg (zi_ge 101 101 rfl (by omega) (by decide)), zi_in (n := 101) (by omega) (by decide), nI_clamp (by omega), nI_1] at hst
    simp only [cond_true] at hst
    refine ⟨_, ⟨fun x hx => (zw_cell _ _ _ hx).trans (hf x hx), fun q hq => ?_, fun q h1 h2 => ?_⟩, hst⟩
    · rw [zw_other _ _ _ (by omega)]; exact ho q hq
    · by_cases hqk : q = 71 + k
      · subst hqk; rw [zw_same]
      · rw [zw_other _ _ _ hqk]; exact hi q h1 (by omega)) Dm.1 ⟨fun _ _ => rfl, fun _ _ => rfl, fun q h1 h2 => absurd h2 (by omega)⟩
  refine ⟨g1, f1, o1, i1, zs_X9_clearChoices_p118 ((zd_X9_clearChoices_p118 _ Dm.1 Dm.2).trans (r1.trans ?_))⟩
  rw [zd_X9_clearChoices_p118_3, if_pos (zi_le 101 101 rfl (by decide) (by decide))]
theorem ev_clear_119 {dp : Nat} (Dm : zv_D) : ∃ g', (∀ x, x ≠ 119 → g' x = Dm.1 x) ∧ (∀ k, k < 71 → g' 119 k = Dm.1 119 k) ∧ (∀ k, 71 ≤ k → k < 101 → g' 119 k = -9) ∧ zv_ev (dp + 1) 133 [.ref 119] zS0 Dm = zo_v (g', Dm.2) := by
  obtain ⟨g1, ⟨f1, o1, i1⟩, r1⟩ := zl_up (fun k (s : Nat → Nat → Int32) => zv_m zt_X9_clearChoices (zv_ev dp) false 3 [some (.ref 119), some (.int (nI (71 + k)))] [] zS0 (s, Dm.2)) 30 (fun k s => (∀ x, x ≠ 119 → s x = Dm.1 x) ∧ (∀ q, q < 71 → s 119 q = Dm.1 119 q) ∧ ∀ q, 71 ≤ q → q < 71 + k → s 119 q = -9) (by
    intro k s hk ⟨hf, ho, hi⟩
    have hst := zd_X9_clearChoices_p119_3 (zv_ev dp) s Dm.2 (nI (71 + k))
    rw [if_neg (zi_ge 101 101 rfl (by omega) (by decide)), zi_in (n := 101) (by omega) (by decide), nI_clamp (by omega), nI_1] at hst
    simp only [cond_true] at hst
    refine ⟨_, ⟨fun x hx => (zw_cell _ _ _ hx).trans (hf x hx), fun q hq => ?_, fun q h1 h2 => ?_⟩, hst⟩
    · rw [zw_other _ _ _ (by omega)]; exact ho q hq
    · by_cases hqk : q = 71 + k
      · subst hqk; rw [zw_same]
      · rw [zw_other _ _ _ hqk]; exact hi q h1 (by omega)) Dm.1 ⟨fun _ _ => rfl, fun _ _ => rfl, fun q h1 h2 => absurd h2 (by omega)⟩
  refine ⟨g1, f1, o1, i1, zs_X9_clearChoices_p119 ((zd_X9_clearChoices_p119 _ Dm.1 Dm.2).trans (r1.trans ?_))⟩
  rw [zd_X9_clearChoices_p119_3, if_pos (zi_le 101 101 rfl (by decide) (by decide))]
theorem ev_clear_121 {dp : Nat} (Dm : zv_D) : ∃ g', (∀ x, x ≠ 121 → g' x = Dm.1 x) ∧ (∀ k, k < 71 → g' 121 k = Dm.1 121 k) ∧ (∀ k, 71 ≤ k → k < 101 → g' 121 k = -9) ∧ zv_ev (dp + 1) 133 [.ref 121] zS0 Dm = zo_v (g', Dm.2) := by
  obtain ⟨g1, ⟨f1, o1, i1⟩, r1⟩ := zl_up (fun k (s : Nat → Nat → Int32) => zv_m zt_X9_clearChoices (zv_ev dp) false 3 [some (.ref 121), some (.int (nI (71 + k)))] [] zS0 (s, Dm.2)) 30 (fun k s => (∀ x, x ≠ 121 → s x = Dm.1 x) ∧ (∀ q, q < 71 → s 121 q = Dm.1 121 q) ∧ ∀ q, 71 ≤ q → q < 71 + k → s 121 q = -9) (by
    intro k s hk ⟨hf, ho, hi⟩
    have hst := zd_X9_clearChoices_p121_3 (zv_ev dp) s Dm.2 (nI (71 + k))
    rw [if_neg (zi_ge 101 101 rfl (by omega) (by decide)), zi_in (n := 101) (by omega) (by decide), nI_clamp (by omega), nI_1] at hst
    simp only [cond_true] at hst
    refine ⟨_, ⟨fun x hx => (zw_cell _ _ _ hx).trans (hf x hx), fun q hq => ?_, fun q h1 h2 => ?_⟩, hst⟩
    · rw [zw_other _ _ _ (by omega)]; exact ho q hq
    · by_cases hqk : q = 71 + k
      · subst hqk; rw [zw_same]
      · rw [zw_other _ _ _ hqk]; exact hi q h1 (by omega)) Dm.1 ⟨fun _ _ => rfl, fun _ _ => rfl, fun q h1 h2 => absurd h2 (by omega)⟩
  refine ⟨g1, f1, o1, i1, zs_X9_clearChoices_p121 ((zd_X9_clearChoices_p121 _ Dm.1 Dm.2).trans (r1.trans ?_))⟩
  rw [zd_X9_clearChoices_p121_3, if_pos (zi_le 101 101 rfl (by decide) (by decide))]
