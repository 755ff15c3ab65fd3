/-! ===== the past ===== -/
def zPu (x : zX × zA) (t : (Nat → zX × zA) × Nat) : (Nat → zX × zA) × Nat := (fun i => if i = 0 then x else t.1 (i - 1), min (t.2 + 1) 14)
def zPo (t : (Nat → zX × zA) × Nat) : (Nat → zX × zA) × Nat := (fun i => t.1 (i + 1), t.2 - 1)
theorem zk_past : ∀ k, k < 14 → zS0.2.2.2 45 k = some (46 + 4 * k) := by decide +kernel
theorem zk_slot : ∀ k, k < 2 → zS0.2.2.2 102 k = some (103 + 4 * k) := by decide +kernel
theorem ev_copy_to {dp : Nat} (Dm : zv_D) : ∀ k, k < 14 → zv_ev (dp + 1) 68 [.ref (46 + 4 * k), .ref 17] zS0 Dm = zo_v (zv_sc (46 + 4 * k) 17 Dm.1, Dm.2)
  | 0, _ => ev_copy_46_17 Dm
  | 1, _ => ev_copy_50_17 Dm
  | 2, _ => ev_copy_54_17 Dm
  | 3, _ => ev_copy_58_17 Dm
  | 4, _ => ev_copy_62_17 Dm
  | 5, _ => ev_copy_66_17 Dm
  | 6, _ => ev_copy_70_17 Dm
  | 7, _ => ev_copy_74_17 Dm
  | 8, _ => ev_copy_78_17 Dm
  | 9, _ => ev_copy_82_17 Dm
  | 10, _ => ev_copy_86_17 Dm
  | 11, _ => ev_copy_90_17 Dm
  | 12, _ => ev_copy_94_17 Dm
  | 13, _ => ev_copy_98_17 Dm
  | k + 14, h => (Nat.not_lt.mpr (Nat.le_add_left 14 k) h).elim
theorem ev_copy_fr {dp : Nat} (Dm : zv_D) : ∀ k, k < 14 → zv_ev (dp + 1) 68 [.ref 17, .ref (46 + 4 * k)] zS0 Dm = zo_v (zv_sc 17 (46 + 4 * k) Dm.1, Dm.2)
  | 0, _ => ev_copy_17_46 Dm
  | 1, _ => ev_copy_17_50 Dm
  | 2, _ => ev_copy_17_54 Dm
  | 3, _ => ev_copy_17_58 Dm
  | 4, _ => ev_copy_17_62 Dm
  | 5, _ => ev_copy_17_66 Dm
  | 6, _ => ev_copy_17_70 Dm
  | 7, _ => ev_copy_17_74 Dm
  | 8, _ => ev_copy_17_78 Dm
  | 9, _ => ev_copy_17_82 Dm
  | 10, _ => ev_copy_17_86 Dm
  | 11, _ => ev_copy_17_90 Dm
  | 12, _ => ev_copy_17_94 Dm
  | 13, _ => ev_copy_17_98 Dm
  | k + 14, h => (Nat.not_lt.mpr (Nat.le_add_left 14 k) h).elim
theorem zi_min14 {a : Nat} (ha : a ≤ 14) : (if (14 : Int32) < nI a + 1 then 14 else nI a + 1) = nI (min (a + 1) 14) := by
  have key : ∀ a, a ≤ 14 → (if (14 : Int32) < nI a + 1 then 14 else nI a + 1) = nI (min (a + 1) 14) := by decide +kernel
  exact key a ha
/-- a state goes into the ring at k -/
theorem zb3_put {g : Nat → Nat → Int32} {X : zX} {A : zA} {t : (Nat → zX × zA) × Nat} {k : Nat} (hk : k < 14) (ht : t.2 ≤ 14) (h0 : g 44 0 = nI t.2) (h1 : g 44 1 = nI k) (hX : zC_X 17 g X A) (hp : ∀ i, i < t.2 → i < 13 → zC_X (46 + 4 * ((k + 13 - i) % 14)) g (t.1 i).1 (t.1 i).2) : zb3 (zv_w (zv_w (zv_sc (46 + 4 * k) 17 g) 44 1 ((zv_sc (46 + 4 * k) 17 g) 44 1 + 1)) 44 0 (if 14 < (((zv_w (zv_sc (46 + 4 * k) 17 g) 44 1 ((zv_sc (46 + 4 * k) 17 g) 44 1 + 1)) 44 0) + 1) then 14 else (((zv_w (zv_sc (46 + 4 * k) 17 g) 44 1 ((zv_sc (46 + 4 * k) 17 g) 44 1 + 1)) 44 0) + 1))) (zPu (X, A) t) := by
  have e44 : zv_sc (46 + 4 * k) 17 g 44 = g 44 := zsc_frame _ _ _ (by omega)
  refine ⟨k + 1, by omega, ?_, ?_, fun i hi => ?_⟩
  · rw [zw_same, zw_other _ _ _ (by decide), e44, h0]
    exact zi_min14 ht
  · rw [zw_other _ _ _ (by decide), zw_same, e44, h1, nI_1]
  · have hi' : i < min (t.2 + 1) 14 := hi
    refine zC_X_of (c := 46 + 4 * ((k + 1 + 13 - i) % 14)) (g := zv_sc (46 + 4 * k) 17 g) ?_ (fun x h2 h3 => (zw_cell _ _ _ (by omega)).trans (zw_cell _ _ _ (by omega)))
    by_cases hi0 : i = 0
    · subst hi0
      have e : (k + 1 + 13 - 0) % 14 = k := by omega
      rw [e]
      exact zsc_X (by omega) hX
    · have e : (zPu (X, A) t).1 i = t.1 (i - 1) := if_neg hi0
      rw [e]
      have hq := hp (i - 1) (by omega) (by omega)
      rw [show k + 13 - (i - 1) = k + 1 + 13 - i by omega] at hq
      refine zC_X_of hq (fun x h2 h3 => zsc_frame _ _ _ ?_)
      have : (k + 1 + 13 - i) % 14 ≠ k := by omega
      omega
theorem ev_save {dp : Nat} {Dm : zv_D} {X : zX} {A : zA} {t : (Nat → zX × zA) × Nat} (hX : zC_X 17 Dm.1 X A) (hb : zb3 Dm.1 t) (ht : t.2 ≤ 14) : ∃ g', (∀ x, x < 44 ∨ 101 < x → g' x = Dm.1 x) ∧ zb3 g' (zPu (X, A) t) ∧ zv_ev (dp + 2) 17 [.ref 44, .ref 17] zS0 Dm = zo_v (g', Dm.2) := by
  obtain ⟨nx, a, b, c, d⟩ := hb
  have hst := zd_X2_save (zv_ev (dp + 1)) Dm.1 Dm.2
  by_cases h14 : nx < 14
  · rw [c, if_neg (nI_pos (by omega)), if_pos (show nI nx < 14 from nI_lt (b := 14) h14 (by decide)), zi_in h14 (by decide), nI_clamp (by omega), zk_past nx h14, cond_true] at hst
    simp only [Option.bind_some] at hst
    rw [ev_copy_to (dp := dp) (Dm.1, Dm.2) nx h14] at hst
    simp only [Option.bind_some] at hst
    refine ⟨_, fun x hx => ?_, zb3_put h14 ht b c hX (fun i hi _ => d i hi), zs_X2_save hst⟩
    rw [zw_cell _ _ _ (by omega), zw_cell _ _ _ (by omega), zsc_frame _ _ _ (by omega)]
  · have e14 : nx = 14 := by omega
    subst e14
    have hw : zv_w Dm.1 44 1 0 44 1 = 0 := zw_same _ _ _ _
    rw [c, if_neg (nI_pos (by omega)), if_neg (by decide), hw, show zv_in (0 : Int32) 14 = true from rfl, show (0 : Int32).toNatClampNeg = 0 from rfl, zk_past 0 (by decide), cond_true] at hst
    simp only [Option.bind_some] at hst
    rw [ev_copy_to (dp := dp) (zv_w Dm.1 44 1 0, Dm.2) 0 (by decide)] at hst
    simp only [Option.bind_some] at hst
    refine ⟨_, fun x hx => ?_, zb3_put (k := 0) (g := zv_w Dm.1 44 1 0) (by decide) ht ((zw_other _ _ _ (by decide)).trans b) hw (zC_X_of hX (fun x h2 h3 => zw_cell _ _ _ (by omega))) (fun i hi h13 => ?_), zs_X2_save hst⟩
    · rw [zw_cell _ _ _ (by omega), zw_cell _ _ _ (by omega), zsc_frame _ _ _ (by omega), zw_cell _ _ _ (by omega)]
    · have hq := d i hi
      rw [show (14 + 13 - i) % 14 = (0 + 13 - i) % 14 by omega] at hq
      exact zC_X_of hq (fun x h2 h3 => zw_cell _ _ _ (by omega))
theorem zi_max0 {a : Nat} (ha : a < 14) : (if (nI (a + 1) - 1) < 0 then 0 else (nI (a + 1) - 1)) = nI a := by
  have key : ∀ a, a < 14 → (if (nI (a + 1) - 1) < 0 then (0 : Int32) else (nI (a + 1) - 1)) = nI a := by decide +kernel
  exact key a ha
theorem ev_latest {dp : Nat} {Dm : zv_D} {t : (Nat → zX × zA) × Nat} (hb : zb3 Dm.1 t) (ht : t.2 ≤ 14) (h0 : 0 < t.2) : ∃ g' k, k < 14 ∧ (∀ x, x ≠ 44 → g' x = Dm.1 x) ∧ zC_X (46 + 4 * k) g' (t.1 0).1 (t.1 0).2 ∧ zb3 g' (zPo t) ∧ zv_ev (dp + 1) 18 [.ref 44] zS0 Dm = some ((0, 0, 46 + 4 * k), (g', Dm.2)) := by
  obtain ⟨nx, a, b, c, d⟩ := hb
  obtain ⟨H, hH⟩ : ∃ H, t.2 = H + 1 := ⟨t.2 - 1, by omega⟩
  have hst := zd_X2_latest (zv_ev dp) Dm.1 Dm.2
  have key : ∀ (k : Nat), k < 14 → (∀ i, i < 13 → (k + 13 - i) % 14 = (nx + 13 - (i + 1)) % 14) → k = (nx + 13) % 14 → ∃ g', (∀ x, x ≠ 44 → g' x = Dm.1 x) ∧ zC_X (46 + 4 * k) g' (t.1 0).1 (t.1 0).2 ∧ zb3 g' (zPo t) ∧ g' = zv_w (zv_w Dm.1 44 1 (nI k)) 44 0 (nI H) := by
    intro k hk hi hk0
    have fr : ∀ x, x ≠ 44 → zv_w (zv_w Dm.1 44 1 (nI k)) 44 0 (nI H) x = Dm.1 x := fun x hx => (zw_cell _ _ _ hx).trans (zw_cell _ _ _ hx)
    refine ⟨_, fr, ?_, ⟨k, by omega, ?_, ?_, fun i hi2 => ?_⟩, rfl⟩
    · have hq := d 0 h0
      rw [show (nx + 13 - 0) % 14 = k by omega] at hq
      exact zC_X_of hq (fun x h2 h3 => fr x (by omega))
    · rw [zw_same]
      show nI H = nI (t.2 - 1)
      rw [hH]; rfl
    · rw [zw_other _ _ _ (by decide), zw_same]
    · have hi3 : i < t.2 - 1 := hi2
      have hq := d (i + 1) (by omega)
      rw [← hi i (by omega)] at hq
      exact zC_X_of hq (fun x h2 h3 => fr x (by omega))
  have e0 : ∀ v, zv_w Dm.1 44 1 v 44 0 = nI (H + 1) := fun v => (zw_other _ _ _ (by decide)).trans (by rw [b, hH])
  simp only [e0, zi_max0 (show H < 14 by omega)] at hst
  rw [c] at hst
  by_cases hn : nx = 0
  · subst hn
    rw [if_pos (by decide), zw_other _ _ _ (by decide), zw_same, show zv_in (13 : Int32) 14 = true from rfl, show (13 : Int32).toNatClampNeg = 13 from rfl, zk_past 13 (by decide), cond_true] at hst
    obtain ⟨g', f, x, z, e⟩ := key 13 (by decide) (fun i hi => by omega) (by decide)
    refine ⟨g', 13, by decide, f, x, z, zs_X2_latest (hst.trans ?_)⟩
    rw [e]
    rfl
  · obtain ⟨k, rfl⟩ : ∃ k, nx = k + 1 := ⟨nx - 1, by omega⟩
    rw [if_neg (nI_nle (by omega) (by omega)), if_neg (show ¬ (14 : Int32) < nI (k + 1) from nI_nlt (a := 14) (b := k + 1) a (by decide)), nI_pred, zw_other _ _ _ (by decide), zw_same, zi_in (by omega) (by decide), nI_clamp (by omega), zk_past k (by omega), cond_true] at hst
    obtain ⟨g', f, x, z, e⟩ := key k (by omega) (fun i hi => by omega) (by omega)
    refine ⟨g', k, by omega, f, x, z, zs_X2_latest (hst.trans ?_)⟩
    rw [e]
    rfl
theorem ev_restore {dp : Nat} {Dm : zv_D} {T : zT} {X X0 : zX} {A A0 : zA} {r : Nat} (hC : zC 16 Dm.1 T X0 A0) (hr : 26 < r) (hcp : ∀ D' : zv_D, zv_ev (dp + 3) 68 [.ref 17, .ref r] zS0 D' = zo_v (zv_sc 17 r D'.1, D'.2)) (hX : zX_ok T X) (hW : za_W T A) (cX : zC_X r Dm.1 X A) : ∃ g', zF 16 26 Dm.1 g' ∧ zC 16 g' T X A ∧ zv_ev (dp + 4) 47 [.ref 16, .ref r] zS0 Dm = zo_v (g', Dm.2) := by
  have hst := zd_X6_restore_16 (zv_ev (dp + 3)) Dm.1 Dm.2 r
  rw [hcp (Dm.1, Dm.2)] at hst
  simp only [Option.bind_some] at hst
  obtain ⟨g1, g2, f2, C2, r1, r2⟩ := ev_anew (dp := dp) (Dm := (zv_sc 17 r Dm.1, Dm.2)) (T := T) (X := X) (A := A) hC.1 hX hW (zC_T_of hC.2.2.2.1 (fun x h1 h2 => zsc_frame _ _ _ (by omega))) (zsc_X (by omega) cX)
  dsimp only at f2 r1 r2
  rw [r1] at hst
  simp only [Option.bind_some] at hst
  rw [r2] at hst
  exact ⟨g2, fun x hx => (f2 x (by omega) (by omega) (by omega)).trans (zsc_frame _ _ _ (by omega)), C2, zs_X6_restore_16 hst⟩
/-! the reference's book -/
theorem ev_note {dp : Nat} {Dm : zv_D} {T : zT} {X : zX} {A : zA} {t : (Nat → zX × zA) × Nat} (hT : zT_ok T) (hR : zM_R (Dm.1 119) T X A) (hb : zm3 Dm.1 T t) (ht : t.2 ≤ 14) : ∃ g', (∀ x, x ≠ 116 → x ≠ 122 → g' x = Dm.1 x) ∧ (∀ q, q ≠ 10 → g' 116 q = Dm.1 116 q) ∧ zm3 g' T (zPu (X, A) t) ∧ zv_ev (dp + 1) 170 [.ref 116] zS0 Dm = zo_v (g', Dm.2) := by
  have h4 := hT.2.2.1
  -- the copy of the page
  have put : ∀ (g : Nat → Nat → Int32) (H : Nat) (t' : (Nat → zX × zA) × Nat), H < 14 → g 119 = Dm.1 119 → g 116 10 = nI H → t'.2 = H + 1 → t'.1 0 = (X, A) → (∀ i, i < H → zM_R (fun k => g 122 (101 * (H - 1 - i) + k)) T (t'.1 (i + 1)).1 (t'.1 (i + 1)).2) → ∃ g', (∀ x, x ≠ 116 → x ≠ 122 → g' x = g x) ∧ (∀ q, q ≠ 10 → g' 116 q = g 116 q) ∧ zm3 g' T t' ∧ zv_m zt_X9_note (zv_ev dp) false 51 [some (.ref 116), some (.int 0)] [] zS0 (g, Dm.2) = zv_rv zS0 (g', Dm.2) := by
    intro g H t' hH h119 h10 ht2 ht0 hold
    obtain ⟨g1, ⟨f1, o1, n1⟩, r1⟩ := zl_up (fun k (s : Nat → Nat → Int32) => zv_m zt_X9_note (zv_ev dp) false 51 [some (.ref 116), some (.int (nI k))] [] zS0 (s, Dm.2)) 101 (fun k s => (∀ x, x ≠ 122 → s x = g x) ∧ (∀ q, q < 101 * H ∨ 101 * H + k ≤ q → s 122 q = g 122 q) ∧ ∀ q, q < k → s 122 (101 * H + q) = g 119 q) (by
      intro k s hk ⟨hf, ho, hn⟩
      have hst := zd_X9_note_51 (zv_ev dp) s Dm.2 (nI k)
      rw [if_neg (zi_ge 101 101 rfl hk (by decide)), hf 116 (by decide), h10, show (101 : Int32) * nI H = nI (101 * H) from pk_mul 101 H, nI_add, zi_in hk (by decide), zi_in (n := 1414) (by omega) (by decide), nI_clamp (by omega), nI_clamp (by omega), nI_1] at hst
      simp only [cond_true] at hst
      refine ⟨_, ⟨fun x hx => (zw_cell _ _ _ hx).trans (hf x hx), fun q hq => ?_, fun q hq => ?_⟩, hst⟩
      · rw [zw_other _ _ _ (by omega)]; exact ho q (by omega)
      · by_cases hqk : q = k
        · subst hqk; rw [zw_same, hf 119 (by decide)]
        · rw [zw_other _ _ _ (by omega)]; exact hn q (by omega)) g ⟨fun _ _ => rfl, fun _ _ => rfl, fun q hq => absurd hq (Nat.not_lt_zero q)⟩
    have hst := r1.trans (zd_X9_note_51 (zv_ev dp) g1 Dm.2 (nI 101))
    rw [if_pos (by decide), f1 116 (by decide), h10, nI_1] at hst
    refine ⟨zv_w g1 116 10 (nI (H + 1)), fun x h1 h2 => (zw_cell _ _ _ h1).trans (f1 x h2), fun q hq => by rw [zw_other _ _ _ hq, f1 116 (by decide)], ⟨by rw [zw_same, ht2], fun i hi => ?_⟩, hst⟩
    rw [zw_cell _ _ _ (by decide), ht2]
    rw [ht2] at hi
    by_cases hi0 : i = 0
    · subst hi0
      rw [ht0]
      refine zM_R_of hR (fun k hk => ?_) h4
      show g1 122 (101 * (H + 1 - 1 - 0) + k) = Dm.1 119 k
      rw [show H + 1 - 1 - 0 = H by omega, n1 k hk, h119]
    · obtain ⟨j, rfl⟩ : ∃ j, i = j + 1 := ⟨i - 1, by omega⟩
      refine zM_R_of (hold j (by omega)) (fun k hk => ?_) h4
      show g1 122 (101 * (H + 1 - 1 - (j + 1)) + k) = g 122 (101 * (H - 1 - j) + k)
      rw [show H + 1 - 1 - (j + 1) = H - 1 - j by omega]
      exact o1 _ (by omega)
  have hst := zd_X9_note (zv_ev dp) Dm.1 Dm.2
  rw [hb.1] at hst
  by_cases hH : t.2 = 14
  · rw [hH, if_pos (show nI 14 = 14 from rfl)] at hst
    obtain ⟨g1, ⟨f1, o1, n1⟩, r1⟩ := zl_up (fun k (s : Nat → Nat → Int32) => zv_m zt_X9_note (zv_ev dp) false 11 [some (.ref 116), some (.int (nI k))] [] zS0 (s, Dm.2)) 1313 (fun k s => (∀ x, x ≠ 122 → s x = Dm.1 x) ∧ (∀ q, k ≤ q → s 122 q = Dm.1 122 q) ∧ ∀ q, q < k → s 122 q = Dm.1 122 (q + 101)) (by
      intro k s hk ⟨hf, ho, hn⟩
      have hs := zd_X9_note_11 (zv_ev dp) s Dm.2 (nI k)
      rw [if_neg (zi_ge 1313 1313 rfl hk (by decide)), show nI k + 101 = nI (k + 101) from nI_add k 101, zi_in (n := 1414) (by omega) (by decide), zi_in (n := 1414) (by omega) (by decide), nI_clamp (by omega), nI_clamp (by omega), nI_1] at hs
      simp only [cond_true] at hs
      refine ⟨_, ⟨fun x hx => (zw_cell _ _ _ hx).trans (hf x hx), fun q hq => ?_, fun q hq => ?_⟩, hs⟩
      · rw [zw_other _ _ _ (by omega)]; exact ho q (by omega)
      · by_cases hqk : q = k
        · subst hqk; rw [zw_same]; exact ho _ (by omega)
        · rw [zw_other _ _ _ (by omega)]; exact hn q (by omega)) Dm.1 ⟨fun _ _ => rfl, fun _ _ => rfl, fun q hq => absurd hq (Nat.not_lt_zero q)⟩
    have hs2 := r1.trans (zd_X9_note_11 (zv_ev dp) g1 Dm.2 (nI 1313))
    rw [if_pos (by decide), f1 116 (by decide), hb.1, hH, nI_pred 13] at hs2
    obtain ⟨g2, f2, o2, m2, r2⟩ := put (zv_w g1 116 10 (nI 13)) 13 (zPu (X, A) t) (by decide) ((zw_cell _ _ _ (by decide)).trans (f1 119 (by decide))) (zw_same _ _ _ _) (by show min (t.2 + 1) 14 = 14; omega) rfl (fun i hi => by
      have e : (zPu (X, A) t).1 (i + 1) = t.1 i := rfl
      rw [e, zw_cell _ _ _ (by decide)]
      refine zM_R_of (hb.2 i (by omega)) (fun k hk => ?_) h4
      show g1 122 (101 * (13 - 1 - i) + k) = Dm.1 122 (101 * (t.2 - 1 - i) + k)
      rw [n1 _ (by omega), hH]
      exact congrArg (Dm.1 122) (by omega))
    refine ⟨g2, fun x h1 h2 => (f2 x h1 h2).trans ((zw_cell _ _ _ h1).trans (f1 x h2)), fun q hq => ?_, m2, zs_X9_note (hst.trans (hs2.trans r2))⟩
    rw [o2 q hq, zw_other _ _ _ hq, f1 116 (by decide)]
  · rw [if_neg (fun z => hH ((zi_eqc 14 14 rfl (by omega) (by decide)).mp z))] at hst
    obtain ⟨g2, f2, o2, m2, r2⟩ := put Dm.1 t.2 (zPu (X, A) t) (by omega) rfl hb.1 (by show min (t.2 + 1) 14 = t.2 + 1; omega) rfl (fun i hi => hb.2 i hi)
    exact ⟨g2, f2, o2, m2, zs_X9_note (hst.trans r2)⟩
theorem zPu_ok {Z : zZ} (h : zOK Z) : (zPu (Z.1.2.1, Z.1.2.2) Z.2.2.1).2 ≤ 14 ∧ ∀ i, i < (zPu (Z.1.2.1, Z.1.2.2) Z.2.2.1).2 → zX_ok Z.1.1 ((zPu (Z.1.2.1, Z.1.2.2) Z.2.2.1).1 i).1 ∧ za_W Z.1.1 ((zPu (Z.1.2.1, Z.1.2.2) Z.2.2.1).1 i).2 := by
  refine ⟨Nat.min_le_right _ _, fun i hi => ?_⟩
  by_cases hi0 : i = 0
  · subst hi0; exact ⟨h.1.2.1, h.1.2.2⟩
  · have e : (zPu (Z.1.2.1, Z.1.2.2) Z.2.2.1).1 i = Z.2.2.1.1 (i - 1) := if_neg hi0
    rw [e]
    have hi' : i < min (Z.2.2.1.2 + 1) 14 := hi
    exact h.2.2.1.2 (i - 1) (by omega)
