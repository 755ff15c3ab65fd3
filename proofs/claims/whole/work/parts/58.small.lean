theorem zx_ch : ∀ c, c < 256 → vp_nar .char (((nI c).toUInt32 % 65536).toInt32) = nI c := by decide +kernel
theorem go_write (a : Int32) : zGo 81 138 [.int a] := by
  intro Z ok
  have hn := ok.2.1.1
  rcases zi_rng (a := a) (n := 255) (by decide) 255 rfl with ⟨hb, hx⟩ | ⟨c, hc, rfl, k1, k2, k3, hb⟩
  · refine ⟨(-2, 0, 0), Z, ok, zCl_q fun g h hB => ?_, zMd_q fun g h hB => ?_⟩
    · have hst := zd_X8_write (zv_ev 10) g h a
      refine ⟨g, hB.1, fun _ _ => rfl, zs_X8_write (hst.trans ?_)⟩
      rcases hx with hx | ⟨hx, hy, _⟩
      · rw [if_pos hx]
      · rw [if_neg hx, if_neg hy]
    · have hst := zd_X9_write (zv_ev 10) g h a
      rw [ev_inr (dp := 9) (zv_w g 116 0 0, h) 255 a 255 rfl (by decide), if_neg hb] at hst
      exact ⟨_, zN_0 g, zs_X9_write hst⟩
  by_cases h90 : Z.2.1.2 = 90
  · refine ⟨(-4, 0, 0), Z, ok, zCl_q fun g h hB => ?_, zMd_q fun g h hB => ?_⟩
    · have hst := zd_X8_write (zv_ev 10) g h (nI c)
      rw [if_neg k1, if_pos k2, hB.2.1.1, h90, if_neg (by decide)] at hst
      exact ⟨g, hB.1, fun _ _ => rfl, zs_X8_write hst⟩
    · have hst := zd_X9_write (zv_ev 10) g h (nI c)
      rw [ev_inr (dp := 9) (zv_w g 116 0 0, h) 255 (nI c) 255 rfl (by decide), if_pos hb] at hst
      simp only [Option.bind_some] at hst
      rw [if_neg (by decide), zw_other _ _ _ (by decide), hB.2.1.1, h90] at hst
      exact ⟨_, zN_0 g, zs_X9_write hst⟩
  · have h90' : Z.2.1.2 < 90 := by omega
    refine ⟨(nI (Z.2.1.2 + 1), 0, 0), (Z.1, (fun k => if k = Z.2.1.2 then c else Z.2.1.1 k, Z.2.1.2 + 1), Z.2.2), ⟨ok.1, ⟨h90', fun k hk => ?_, fun e he => ?_⟩, ok.2.2⟩, fun g h hB => ?_, fun g h hB => ?_⟩
    · show (if k = Z.2.1.2 then c else Z.2.1.1 k) < 256
      have hk' : k < Z.2.1.2 + 1 := hk
      split
      · omega
      · exact ok.2.1.2.1 k (by omega)
    · have hq := ok.2.1.2.2 e he
      show (if 100 + e = Z.2.1.2 then c else Z.2.1.1 (100 + e)) < 5 ∧ (if 104 + e = Z.2.1.2 then c else Z.2.1.1 (104 + e)) ≤ 2 ∧ (if 108 + e = Z.2.1.2 then c else Z.2.1.1 (108 + e)) ≤ 5 ∧ (if 112 + e = Z.2.1.2 then c else Z.2.1.1 (112 + e)) ≤ 5
      rw [if_neg (by omega), if_neg (by omega), if_neg (by omega), if_neg (by omega)]
      exact hq
    · have hst := zd_X8_write (zv_ev 10) g h (nI c)
      rw [if_neg k1, if_pos k2, hB.2.1.1, if_pos (show nI Z.2.1.2 < 90 from nI_lt (b := 90) h90' (by decide)), zi_in h90' (by decide), nI_clamp (by omega), zx_ch c (by omega), cond_true, zw_same, zw_cell _ _ _ (by decide), hB.2.1.1, nI_1] at hst
      have F : zF 1 2 g (zv_w (zv_w g 2 Z.2.1.2 (nI c)) 1 1 (nI (Z.2.1.2 + 1))) := zF_trans (zF_w _ _ _ (by decide) (by decide)) (zF_w _ _ _ (by decide) (by decide))
      refine ⟨_, h, ⟨zC_F hB.1 F (by decide) (by decide), ⟨zw_same _ _ _ _, fun k hk => ?_, fun e he => ?_⟩, zb3_of hB.2.2.1 (fun x h1 h2 => F x (by omega)), zb4_of hB.2.2.2.1 (fun x h1 h2 => F x (by omega)), zb5_of hB.2.2.2.2.1 (fun x h1 h2 => F x (by omega)), hB.2.2.2.2.2⟩, fun x hx => ⟨F x (by omega), rfl⟩, zs_X8_write hst⟩
      rotate_left
      · show _ = nI (if 100 + e = Z.2.1.2 then c else Z.2.1.1 (100 + e)) ∧ _ = nI (if 104 + e = Z.2.1.2 then c else Z.2.1.1 (104 + e)) ∧ _ = nI (if 108 + e = Z.2.1.2 then c else Z.2.1.1 (108 + e)) ∧ _ = nI (if 112 + e = Z.2.1.2 then c else Z.2.1.1 (112 + e))
        rw [F 5 (by decide), F 6 (by decide), F 7 (by decide), F 8 (by decide), if_neg (by omega), if_neg (by omega), if_neg (by omega), if_neg (by omega)]
        exact hB.2.1.2.2 e he
      have hk' : k < Z.2.1.2 + 1 := hk
      show _ = nI (if k = Z.2.1.2 then c else Z.2.1.1 k)
      rw [zw_cell _ _ _ (by decide)]
      by_cases hkn : k = Z.2.1.2
      · rw [hkn, zw_same, if_pos rfl]
      · rw [zw_other _ _ _ hkn, if_neg hkn]; exact hB.2.1.2.1 k (by omega)
    · have hst := zd_X9_write (zv_ev 10) g h (nI c)
      rw [ev_inr (dp := 9) (zv_w g 116 0 0, h) 255 (nI c) 255 rfl (by decide), if_pos hb] at hst
      simp only [Option.bind_some] at hst
      have e2 : zv_w g 116 0 0 116 2 = nI Z.2.1.2 := (zw_other _ _ _ (by decide)).trans hB.2.1.1
      rw [if_neg (by decide), e2, if_neg (fun z => h90 ((zi_eqc 90 90 rfl (by omega) (by decide)).mp z)), zi_in h90' (by decide), nI_clamp (by omega), cond_true, zw_same, zw_cell _ _ _ (by decide), e2, nI_1] at hst
      have fr : ∀ x, x ≠ 116 → x ≠ 117 → zv_w (zv_w (zv_w g 116 0 0) 117 Z.2.1.2 (nI c)) 116 2 (nI (Z.2.1.2 + 1)) x = g x := fun x h1 h2 => (zw_cell _ _ _ h1).trans ((zw_cell _ _ _ h2).trans (zw_cell _ _ _ h1))
      have fq : ∀ q, q ≠ 0 → q ≠ 2 → zv_w (zv_w (zv_w g 116 0 0) 117 Z.2.1.2 (nI c)) 116 2 (nI (Z.2.1.2 + 1)) 116 q = g 116 q := fun q h1 h2 => (zw_other _ _ _ h2).trans ((congrFun (zw_cell _ _ _ (by decide)) q).trans (zw_other _ _ _ h1))
      refine ⟨_, h, ⟨by rw [fr 119 (by decide) (by decide)]; exact hB.1, ⟨zw_same _ _ _ _, fun k hk => ?_⟩, zm3_of hB.2.2.1 (fq 10 (by decide) (by decide)) (fr 122 (by decide) (by decide)), zm4_of hB.2.2.2.1 (fr 123 (by decide) (by decide)) (fr 124 (by decide) (by decide)), zm5_of hB.2.2.2.2.1 (fq 13 (by decide) (by decide)) (fun x h1 h2 => fr x (by omega) (by omega)), hB.2.2.2.2.2⟩, fun x hx => ⟨fr x (by omega) (by omega), rfl⟩, zs_X9_write hst⟩
      have hk' : k < Z.2.1.2 + 1 := hk
      show _ = nI (if k = Z.2.1.2 then c else Z.2.1.1 k)
      rw [zw_cell _ _ _ (by decide)]
      by_cases hkn : k = Z.2.1.2
      · rw [hkn, zw_same, if_pos rfl]
      · rw [zw_other _ _ _ hkn, if_neg hkn, zw_cell _ _ _ (by decide)]; exact hB.2.1.2 k (by omega)
theorem go_wipe : zGo 82 139 [] := by
  intro Z ok
  refine ⟨(nI Z.2.1.2, 0, 0), (Z.1, (Z.2.1.1, 0), Z.2.2), ⟨ok.1, ⟨Nat.zero_le _, fun k hk => absurd hk (Nat.not_lt_zero k), ok.2.1.2.2⟩, ok.2.2⟩, fun g h hB => ?_, fun g h hB => ?_⟩
  · have hst := zd_X8_wipe (zv_ev 10) g h
    rw [hB.2.1.1] at hst
    have F : zF 1 1 g (zv_w g 1 1 0) := zF_w _ _ _ (by decide) (by decide)
    exact ⟨zv_w g 1 1 0, h, ⟨zC_F hB.1 F (by decide) (by decide), ⟨zw_same _ _ _ _, fun k hk => absurd hk (Nat.not_lt_zero k), fun e he => by rw [F 5 (by decide), F 6 (by decide), F 7 (by decide), F 8 (by decide)]; exact hB.2.1.2.2 e he⟩, zb3_of hB.2.2.1 (fun x h1 h2 => F x (by omega)), zb4_of hB.2.2.2.1 (fun x h1 h2 => F x (by omega)), zb5_of hB.2.2.2.2.1 (fun x h1 h2 => F x (by omega)), hB.2.2.2.2.2⟩, fun x hx => ⟨F x (by omega), rfl⟩, zs_X8_wipe hst⟩
  · have hst := zd_X9_wipe (zv_ev 10) g h
    rw [zw_other _ _ _ (by decide), hB.2.1.1] at hst
    have fr : ∀ x, x ≠ 116 → zv_w (zv_w g 116 0 0) 116 2 0 x = g x := fun x h1 => (zw_cell _ _ _ h1).trans (zw_cell _ _ _ h1)
    have fq : ∀ q, q ≠ 0 → q ≠ 2 → zv_w (zv_w g 116 0 0) 116 2 0 116 q = g 116 q := fun q h1 h2 => (zw_other _ _ _ h2).trans (zw_other _ _ _ h1)
    exact ⟨zv_w (zv_w g 116 0 0) 116 2 0, h, ⟨by rw [fr 119 (by decide)]; exact hB.1, ⟨zw_same _ _ _ _, fun k hk => absurd hk (Nat.not_lt_zero k)⟩, zm3_of hB.2.2.1 (fq 10 (by decide) (by decide)) (fr 122 (by decide)), zm4_of hB.2.2.2.1 (fr 123 (by decide)) (fr 124 (by decide)), zm5_of hB.2.2.2.2.1 (fq 13 (by decide) (by decide)) (fun x h1 h2 => fr x (by omega)), hB.2.2.2.2.2⟩, fun x hx => ⟨fr x (by omega), rfl⟩, zs_X9_wipe hst⟩
theorem go_unsee : zGo 106 201 [] := by
  intro Z ok
  refine ⟨(nI Z.2.2.2.2.1.2.2.2, 0, 0), (Z.1, Z.2.1, Z.2.2.1, Z.2.2.2.1, (Z.2.2.2.2.1.1, Z.2.2.2.2.1.2.1, Z.2.2.2.2.1.2.2.1, 0), Z.2.2.2.2.2), ⟨ok.1, ok.2.1, ok.2.2.1, ok.2.2.2.1, Nat.zero_le _, fun k hk => absurd hk (Nat.not_lt_zero k)⟩, fun g h hB => ?_, fun g h hB => ?_⟩
  · have hst := zd_X8_unsee (zv_ev 10) g h
    rw [hB.2.2.2.2.1.1] at hst
    have F : zF 112 112 g (zv_w g 112 0 0) := zF_w _ _ _ (by decide) (by decide)
    exact ⟨_, h, ⟨zC_F hB.1 F (by decide) (by decide), zb2_of hB.2.1 (congrFun (F 1 (by decide)) 1) (F 2 (by decide)) (fun x h1 h2 => F x (by omega)), zb3_of hB.2.2.1 (fun x h1 h2 => F x (by omega)), zb4_of hB.2.2.2.1 (fun x h1 h2 => F x (by omega)), ⟨zw_same _ _ _ _, fun k hk => absurd hk (Nat.not_lt_zero k)⟩, hB.2.2.2.2.2⟩, fun x hx => ⟨F x (by omega), rfl⟩, zs_X8_unsee hst⟩
  · have hst := zd_X9_unsee (zv_ev 10) g h
    rw [zw_other _ _ _ (by decide), hB.2.2.2.2.1.1] at hst
    have fr : ∀ x, x ≠ 116 → zv_w (zv_w g 116 0 0) 116 13 0 x = g x := fun x h1 => (zw_cell _ _ _ h1).trans (zw_cell _ _ _ h1)
    have fq : ∀ q, q ≠ 0 → q ≠ 13 → zv_w (zv_w g 116 0 0) 116 13 0 116 q = g 116 q := fun q h1 h2 => (zw_other _ _ _ h2).trans (zw_other _ _ _ h1)
    exact ⟨zv_w (zv_w g 116 0 0) 116 13 0, h, ⟨by rw [fr 119 (by decide)]; exact hB.1, zm2_of hB.2.1 (fq 2 (by decide) (by decide)) (fr 117 (by decide)), zm3_of hB.2.2.1 (fq 10 (by decide) (by decide)) (fr 122 (by decide)), zm4_of hB.2.2.2.1 (fr 123 (by decide)) (fr 124 (by decide)), ⟨zw_same _ _ _ _, fun k hk => absurd hk (Nat.not_lt_zero k)⟩, hB.2.2.2.2.2⟩, fun x hx => ⟨fr x (by omega), rfl⟩, zs_X9_unsee hst⟩
theorem zwl_same (g : Nat → Nat → Int64) (c i : Nat) (v : Int64) : zv_wl g c i v c i = v := by simp [zv_wl, vp_updL]
theorem zwl_cell (g : Nat → Nat → Int64) {c c' : Nat} (i : Nat) (v : Int64) (h : c' ≠ c) : zv_wl g c i v c' = g c' := by simp [zv_wl, h]
theorem zBC_h {g : Nat → Nat → Int32} {h : Nat → Nat → Int64} {Z : zZ} (hB : zBC g h Z) (v : Int64) : zBC g (zv_wl h 0 10 v) (Z.1, Z.2.1, Z.2.2.1, Z.2.2.2.1, Z.2.2.2.2.1, v) := ⟨hB.1, hB.2.1, hB.2.2.1, hB.2.2.2.1, hB.2.2.2.2.1, zwl_same _ _ _ _⟩
theorem zBM_h {g : Nat → Nat → Int32} {h : Nat → Nat → Int64} {Z : zZ} (hB : zBM g h Z) (v : Int64) : zBM g (zv_wl h 116 17 v) (Z.1, Z.2.1, Z.2.2.1, Z.2.2.2.1, Z.2.2.2.2.1, v) := ⟨hB.1, hB.2.1, hB.2.2.1, hB.2.2.2.1, hB.2.2.2.2.1, zwl_same _ _ _ _⟩
theorem go_seed (a : Int64) : zGo 110 210 [.long a] := by
  intro Z ok
  refine ⟨(0, Z.2.2.2.2.2, 0), (Z.1, Z.2.1, Z.2.2.1, Z.2.2.2.1, Z.2.2.2.2.1, a), ok, fun g h hB => ?_, fun g h hB => ?_⟩
  · have hst := zd_X8_seed (zv_ev 10) g h a
    rw [hB.2.2.2.2.2] at hst
    exact ⟨g, _, zBC_h hB a, fun x hx => ⟨rfl, zwl_cell _ _ _ (by omega)⟩, zs_X8_seed hst⟩
  · have hst := zd_X9_seed (zv_ev 10) g h a
    rw [hB.2.2.2.2.2] at hst
    exact ⟨_, _, zBM_h (zBM_0 hB) a, fun x hx => ⟨zw_cell _ _ _ (by omega), zwl_cell _ _ _ (by omega)⟩, zs_X9_seed hst⟩
theorem go_see (a b c : Int32) : zGo 105 200 [.int a, .int b, .int c] := by
  intro Z ok
  have h4 := ok.1.1.2.2.1
  have h5 := ok.1.1.2.1
  have h6 := ok.2.2.2.2.1
  cases ha : zv_in a (zT_n Z.1.1) with
  | false =>
    refine ⟨(-1, 0, 0), Z, ok, zCl_q fun g h hB => ?_, zMd_q fun g h hB => ?_⟩
    · have hst := zd_X8_see (zv_ev 10) g h a b c
      rw [ev_hrF (dp := 9) hB ha] at hst
      exact ⟨g, hB.1, fun _ _ => rfl, zs_X8_see hst⟩
    · have hst := zd_X9_see (zv_ev 10) g h a b c
      rw [ev_nrF (dp := 8) ok (zBM_0 hB) ha] at hst
      exact ⟨_, zN_0 g, zs_X9_see hst⟩
  | true =>
  obtain ⟨i, hi, rfl⟩ := zi_of ha
  cases hb : zv_in b (zT_m Z.1.1) with
  | false =>
    refine ⟨(-1, 0, 0), Z, ok, zCl_q fun g h hB => ?_, zMd_q fun g h hB => ?_⟩
    · have hst := zd_X8_see (zv_ev 10) g h (nI i) b c
      rw [ev_hrT (dp := 9) hB hi] at hst
      simp only [Option.bind_some] at hst
      rw [if_neg (by decide), ev_heF (dp := 9) hB hb] at hst
      exact ⟨g, hB.1, fun _ _ => rfl, zs_X8_see hst⟩
    · have hst := zd_X9_see (zv_ev 10) g h (nI i) b c
      rw [ev_nrT (dp := 8) ok (zBM_0 hB) hi] at hst
      simp only [Option.bind_some] at hst
      rw [if_pos trivial, ev_neF (dp := 8) ok (zBM_0 hB) hb] at hst
      exact ⟨_, zN_0 g, zs_X9_see hst⟩
  | true =>
  obtain ⟨j, hj, rfl⟩ := zi_of hb
  rcases zi_rng (a := c) (n := 1) (by decide) 1 rfl with ⟨hc, hx⟩ | ⟨w, hw, rfl, k1, k2, k3, hc⟩
  · refine ⟨(-2, 0, 0), Z, ok, zCl_q fun g h hB => ?_, zMd_q fun g h hB => ?_⟩
    · have hst := zd_X8_see (zv_ev 10) g h (nI i) (nI j) c
      rw [ev_hrT (dp := 9) hB hi] at hst
      simp only [Option.bind_some] at hst
      rw [if_neg (by decide), ev_heT (dp := 9) hB hj] at hst
      simp only [Option.bind_some] at hst
      rw [if_neg (by decide)] at hst
      refine ⟨g, hB.1, fun _ _ => rfl, zs_X8_see (hst.trans ?_)⟩
      rcases hx with hx | ⟨hx, hy, _⟩
      · rw [if_pos hx]
      · rw [if_neg hx, if_neg hy]
    · have hst := zd_X9_see (zv_ev 10) g h (nI i) (nI j) c
      rw [ev_nrT (dp := 8) ok (zBM_0 hB) hi] at hst
      simp only [Option.bind_some] at hst
      rw [if_pos trivial, ev_neT (dp := 8) ok (zBM_0 hB) hj] at hst
      simp only [Option.bind_some] at hst
      rw [if_pos trivial, ev_inr (dp := 9) (zv_w g 116 0 0, h) 1 c 1 rfl (by decide), if_neg hc] at hst
      exact ⟨_, zN_0 g, zs_X9_see hst⟩
  by_cases hs6 : Z.2.2.2.2.1.2.2.2 = 6
  · refine ⟨(-4, 0, 0), Z, ok, zCl_q fun g h hB => ?_, zMd_q fun g h hB => ?_⟩
    · have hst := zd_X8_see (zv_ev 10) g h (nI i) (nI j) (nI w)
      rw [ev_hrT (dp := 9) hB hi] at hst
      simp only [Option.bind_some] at hst
      rw [if_neg (by decide), ev_heT (dp := 9) hB hj] at hst
      simp only [Option.bind_some] at hst
      rw [if_neg (by decide), if_neg k1, if_pos k2, hB.2.2.2.2.1.1, hs6, if_neg (by decide)] at hst
      exact ⟨g, hB.1, fun _ _ => rfl, zs_X8_see hst⟩
    · have hst := zd_X9_see (zv_ev 10) g h (nI i) (nI j) (nI w)
      rw [ev_nrT (dp := 8) ok (zBM_0 hB) hi] at hst
      simp only [Option.bind_some] at hst
      rw [if_pos trivial, ev_neT (dp := 8) ok (zBM_0 hB) hj] at hst
      simp only [Option.bind_some] at hst
      rw [if_pos trivial, ev_inr (dp := 9) (zv_w g 116 0 0, h) 1 (nI w) 1 rfl (by decide), if_pos hc] at hst
      simp only [Option.bind_some] at hst
      rw [if_neg (by decide), zw_other _ _ _ (by decide), hB.2.2.2.2.1.1, hs6, if_pos (show nI 6 = 6 from rfl)] at hst
      exact ⟨_, zN_0 g, zs_X9_see hst⟩
  have hs6' : Z.2.2.2.2.1.2.2.2 < 6 := by omega
  refine ⟨(nI (Z.2.2.2.2.1.2.2.2 + 1), 0, 0), (Z.1, Z.2.1, Z.2.2.1, Z.2.2.2.1, (fun k => if k = Z.2.2.2.2.1.2.2.2 then i else Z.2.2.2.2.1.1 k, fun k => if k = Z.2.2.2.2.1.2.2.2 then j else Z.2.2.2.2.1.2.1 k, fun k => if k = Z.2.2.2.2.1.2.2.2 then w else Z.2.2.2.2.1.2.2.1 k, Z.2.2.2.2.1.2.2.2 + 1), Z.2.2.2.2.2), ⟨ok.1, ok.2.1, ok.2.2.1, ok.2.2.2.1, hs6', fun k hk => ?_⟩, fun g h hB => ?_, fun g h hB => ?_⟩
  · have hk' : k < Z.2.2.2.2.1.2.2.2 + 1 := hk
    dsimp only
    by_cases hkn : k = Z.2.2.2.2.1.2.2.2
    · rw [if_pos hkn, if_pos hkn, if_pos hkn]; omega
    · rw [if_neg hkn, if_neg hkn, if_neg hkn]; exact ok.2.2.2.2.2 k (by omega)
  · have hst := zd_X8_see (zv_ev 10) g h (nI i) (nI j) (nI w)
    have e := hB.2.2.2.2.1.1
    have hnote := zd_X5_note (zv_ev 9) g h (nI i) (nI j) (nI w)
    have w1 : ∀ v, zv_w g 113 Z.2.2.2.2.1.2.2.2 v 112 0 = nI Z.2.2.2.2.1.2.2.2 := fun v => (congrFun (zw_cell _ _ _ (by decide)) 0).trans e
    have w2 : ∀ v u, zv_w (zv_w g 113 Z.2.2.2.2.1.2.2.2 v) 114 Z.2.2.2.2.1.2.2.2 u 112 0 = nI Z.2.2.2.2.1.2.2.2 := fun v u => (congrFun (zw_cell _ _ _ (by decide)) 0).trans (w1 v)
    have w3 : ∀ v u x, zv_w (zv_w (zv_w g 113 Z.2.2.2.2.1.2.2.2 v) 114 Z.2.2.2.2.1.2.2.2 u) 115 Z.2.2.2.2.1.2.2.2 x 112 0 = nI Z.2.2.2.2.1.2.2.2 := fun v u x => (congrFun (zw_cell _ _ _ (by decide)) 0).trans (w2 v u)
    rw [e, if_neg (nI_pos (by omega)), if_neg (zi_ge 6 6 rfl hs6' (by decide)), zi_in hs6' (by decide), nI_clamp (by omega), w1, zi_in hs6' (by decide), nI_clamp (by omega), w2, zi_in hs6' (by decide), nI_clamp (by omega), w3, nI_1] at hnote
    simp only [cond_true] at hnote
    have hn2 := zs_X5_note hnote
    rw [ev_hrT (dp := 9) hB hi] at hst
    simp only [Option.bind_some] at hst
    rw [if_neg (by decide), ev_heT (dp := 9) hB hj] at hst
    simp only [Option.bind_some] at hst
    rw [if_neg (by decide), if_neg k1, if_pos k2, e, if_pos (show nI Z.2.2.2.2.1.2.2.2 < 6 from nI_lt (b := 6) hs6' (by decide)), hn2] at hst
    simp only [Option.bind_some] at hst
    rw [zw_same] at hst
    have F : zF 112 115 g (zv_w (zv_w (zv_w (zv_w g 113 Z.2.2.2.2.1.2.2.2 (nI i)) 114 Z.2.2.2.2.1.2.2.2 (nI j)) 115 Z.2.2.2.2.1.2.2.2 (nI w)) 112 0 (nI (Z.2.2.2.2.1.2.2.2 + 1))) := zF_trans (zF_trans (zF_trans (zF_w _ _ _ (by decide) (by decide)) (zF_w _ _ _ (by decide) (by decide))) (zF_w _ _ _ (by decide) (by decide))) (zF_w _ _ _ (by decide) (by decide))
    refine ⟨_, h, ⟨zC_F hB.1 F (by decide) (by decide), zb2_of hB.2.1 (congrFun (F 1 (by decide)) 1) (F 2 (by decide)) (fun x h1 h2 => F x (by omega)), zb3_of hB.2.2.1 (fun x h1 h2 => F x (by omega)), zb4_of hB.2.2.2.1 (fun x h1 h2 => F x (by omega)), ⟨zw_same _ _ _ _, fun k hk => ?_⟩, hB.2.2.2.2.2⟩, fun x hx => ⟨F x (by omega), rfl⟩, zs_X8_see hst⟩
    have hk' : k < Z.2.2.2.2.1.2.2.2 + 1 := hk
    have hq := hB.2.2.2.2.1.2 k
    dsimp only
    by_cases hkn : k = Z.2.2.2.2.1.2.2.2
    · simp [zw_at, hkn]
    · have hq' := hq (by omega)
      simp [zw_at, hkn, hq'.1, hq'.2.1, hq'.2.2]
  · have hst := zd_X9_see (zv_ev 10) g h (nI i) (nI j) (nI w)
    have e : zv_w g 116 0 0 116 13 = nI Z.2.2.2.2.1.2.2.2 := (zw_other _ _ _ (by decide)).trans hB.2.2.2.2.1.1
    have w1 : ∀ v, zv_w (zv_w g 116 0 0) 125 Z.2.2.2.2.1.2.2.2 v 116 13 = nI Z.2.2.2.2.1.2.2.2 := fun v => (congrFun (zw_cell _ _ _ (by decide)) 13).trans e
    have w2 : ∀ v u, zv_w (zv_w (zv_w g 116 0 0) 125 Z.2.2.2.2.1.2.2.2 v) 126 Z.2.2.2.2.1.2.2.2 u 116 13 = nI Z.2.2.2.2.1.2.2.2 := fun v u => (congrFun (zw_cell _ _ _ (by decide)) 13).trans (w1 v)
    have w3 : ∀ v u x, zv_w (zv_w (zv_w (zv_w g 116 0 0) 125 Z.2.2.2.2.1.2.2.2 v) 126 Z.2.2.2.2.1.2.2.2 u) 127 Z.2.2.2.2.1.2.2.2 x 116 13 = nI Z.2.2.2.2.1.2.2.2 := fun v u x => (congrFun (zw_cell _ _ _ (by decide)) 13).trans (w2 v u)
    rw [ev_nrT (dp := 8) ok (zBM_0 hB) hi] at hst
    simp only [Option.bind_some] at hst
    rw [if_pos trivial, ev_neT (dp := 8) ok (zBM_0 hB) hj] at hst
    simp only [Option.bind_some] at hst
    rw [if_pos trivial, ev_inr (dp := 9) (zv_w g 116 0 0, h) 1 (nI w) 1 rfl (by decide), if_pos hc] at hst
    simp only [Option.bind_some] at hst
    rw [if_neg (by decide), e, if_neg (fun z => hs6 ((zi_eqc 6 6 rfl (by omega) (by decide)).mp z)), zi_in hs6' (by decide), nI_clamp (by omega), w1, zi_in hs6' (by decide), nI_clamp (by omega), w2, zi_in hs6' (by decide), nI_clamp (by omega), w3, nI_1, zw_same] at hst
    simp only [cond_true] at hst
    have fr : ∀ x, x ≠ 116 → x < 125 ∨ 127 < x → zv_w (zv_w (zv_w (zv_w (zv_w g 116 0 0) 125 Z.2.2.2.2.1.2.2.2 (nI i)) 126 Z.2.2.2.2.1.2.2.2 (nI j)) 127 Z.2.2.2.2.1.2.2.2 (nI w)) 116 13 (nI (Z.2.2.2.2.1.2.2.2 + 1)) x = g x := fun x h1 h2 => (zw_cell _ _ _ h1).trans ((zw_cell _ _ _ (by omega)).trans ((zw_cell _ _ _ (by omega)).trans ((zw_cell _ _ _ (by omega)).trans (zw_cell _ _ _ h1))))
    have fq : ∀ q, q ≠ 0 → q ≠ 13 → zv_w (zv_w (zv_w (zv_w (zv_w g 116 0 0) 125 Z.2.2.2.2.1.2.2.2 (nI i)) 126 Z.2.2.2.2.1.2.2.2 (nI j)) 127 Z.2.2.2.2.1.2.2.2 (nI w)) 116 13 (nI (Z.2.2.2.2.1.2.2.2 + 1)) 116 q = g 116 q := fun q h1 h2 => (zw_other _ _ _ h2).trans ((congrFun ((zw_cell _ _ _ (by decide)).trans ((zw_cell _ _ _ (by decide)).trans (zw_cell _ _ _ (by decide)))) q).trans (zw_other _ _ _ h1))
    refine ⟨_, h, ⟨by rw [fr 119 (by decide) (by decide)]; exact hB.1, zm2_of hB.2.1 (fq 2 (by decide) (by decide)) (fr 117 (by decide) (by decide)), zm3_of hB.2.2.1 (fq 10 (by decide) (by decide)) (fr 122 (by decide) (by decide)), zm4_of hB.2.2.2.1 (fr 123 (by decide) (by decide)) (fr 124 (by decide) (by decide)), ⟨zw_same _ _ _ _, fun k hk => ?_⟩, hB.2.2.2.2.2⟩, fun x hx => ⟨fr x (by omega) (by omega), rfl⟩, zs_X9_see hst⟩
    have hk' : k < Z.2.2.2.2.1.2.2.2 + 1 := hk
    have hq := hB.2.2.2.2.1.2 k
    dsimp only
    by_cases hkn : k = Z.2.2.2.2.1.2.2.2
    · simp [zw_at, hkn]
    · have hq' := hq (by omega)
      simp [zw_at, hkn, hq'.1, hq'.2.1, hq'.2.2]
