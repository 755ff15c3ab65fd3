theorem zt_idx {n i w j k : Nat} (hn : 0 < n) (hw : w < n) (hj : j < n) (h : (i * n + w) * n + j = k) : i = k / (n * n) ∧ w = k / n % n ∧ j = k % n := by
  have q1 : ((i * n + w) * n + j) / n = i * n + w := by
    rw [Nat.add_comm, Nat.mul_comm, Nat.add_mul_div_left _ _ hn, Nat.div_eq_of_lt hj, Nat.zero_add]
  have q2 : ((i * n + w) * n + j) % n = j := by
    rw [Nat.add_comm, Nat.mul_comm, Nat.add_mul_mod_self_left, Nat.mod_eq_of_lt hj]
  have q3 : (i * n + w) / n = i := by
    rw [Nat.add_comm, Nat.mul_comm, Nat.add_mul_div_left _ _ hn, Nat.div_eq_of_lt hw, Nat.zero_add]
  have q4 : (i * n + w) % n = w := by
    rw [Nat.add_comm, Nat.mul_comm, Nat.add_mul_mod_self_left, Nat.mod_eq_of_lt hw]
  subst h
  rw [← Nat.div_div_eq_div_mul, q1, q2, q3, q4]
  exact ⟨rfl, rfl, rfl⟩
theorem zt_all {n k : Nat} (hk : k < n * n * n) : (k / (n * n) * n + k / n % n) * n + k % n = k ∧ k / (n * n) < n ∧ k / n % n < n ∧ k % n < n := by
  have hn : 0 < n := by
    rcases Nat.eq_zero_or_pos n with h | h
    · subst h; exact absurd hk (Nat.not_lt_zero k)
    · exact h
  refine ⟨?_, ?_, Nat.mod_lt _ hn, Nat.mod_lt _ hn⟩
  · rw [← Nat.div_div_eq_div_mul]
    have h1 := Nat.div_add_mod (k / n) n
    have h2 := Nat.div_add_mod k n
    rw [Nat.mul_comm (k / n / n) n, h1, Nat.mul_comm (k / n) n, h2]
  · rw [Nat.div_lt_iff_lt_mul (Nat.mul_pos hn hn), ← Nat.mul_assoc]; exact hk
theorem ev_layCosts_119 {dp : Nat} {Dm : zv_D} {T : zT} {X : zX} {A : zA} (hT : zT_ok T) (hX : zX_ok T X) (hR : zM_R (Dm.1 119) T X A) :
    ∃ g', (∀ x, x ≠ 128 → g' x = Dm.1 x) ∧ zM_K g' T X ∧ zv_ev (dp + 2) 151 [.ref 116, .ref 119] zS0 Dm = zo_v (g', Dm.2) := by
  have h5 := hT.2.1
  have n1 := hT.1
  have c0 : Dm.1 119 0 = nI (zT_n T) := hR.1
  have nn : zT_n T * zT_n T ≤ 25 := Nat.mul_le_mul h5 h5
  have nnn : zT_n T * zT_n T * zT_n T ≤ 125 := Nat.mul_le_mul nn h5
  -- the first row
  obtain ⟨g1, ⟨f1, i1⟩, r1⟩ := zl_up (fun k (s : Nat → Nat → Int32) => zv_m zt_X9_layCosts (zv_ev (dp + 1)) false 6 [some (.ref 116), some (.ref 119), some (.int (nI (zT_n T))), some (.int (nI k)), none, none, none, none, none, none, none] [] zS0 (s, Dm.2)) 25 (fun k s => (∀ x, x ≠ 128 → s x = Dm.1 x) ∧ ∀ q, q < k → s 128 q = if q / 5 = q % 5 then 0 else -9) (by
    intro k s hk ⟨hf, hi⟩
    have hst := zd_X9_layCosts_p119_6 (zv_ev (dp + 1)) s Dm.2 (nI (zT_n T)) (nI k) none none none none none none none
    have hd : nI k / 5 = nI (k / 5) := pk_div (d := 5) (by omega) (by decide) (by decide)
    have hr : nI k - nI (k / 5) * 5 = nI (k % 5) := by rw [← hd]; exact pk_rem (d := 5) (by omega) (by decide) (by decide)
    rw [if_neg (zi_ge 25 25 rfl hk (by decide)), hd, hr, zi_in hk (by decide), nI_clamp (by omega), nI_1] at hst
    simp only [cond_true] at hst
    have go : ∀ v : Int32, v = (if k / 5 = k % 5 then 0 else -9) → (∀ x, x ≠ 128 → zv_w s 128 k v x = Dm.1 x) ∧ ∀ q, q < k + 1 → zv_w s 128 k v 128 q = if q / 5 = q % 5 then 0 else -9 := by
      intro v hv
      refine ⟨fun x hx => (zw_cell _ _ _ hx).trans (hf x hx), fun q hq => ?_⟩
      by_cases hqk : q = k
      · subst hqk; rw [zw_same, hv]
      · rw [zw_other _ _ _ hqk]; exact hi q (by omega)
    by_cases hc : k / 5 = k % 5
    · rw [if_pos (by rw [hc])] at hst
      exact ⟨_, go 0 (by rw [if_pos hc]), hst⟩
    · rw [if_neg (fun z => hc ((nI_eq (by omega) (by omega)).mp z))] at hst
      exact ⟨_, go (-9) (by rw [if_neg hc]), hst⟩) Dm.1 ⟨fun _ _ => rfl, fun q hq => absurd hq (Nat.not_lt_zero q)⟩
  -- again and again
  obtain ⟨⟨g2, u2⟩, ⟨f2, s2, x2⟩, r2⟩ := zl_up (σ := (Nat → Nat → Int32) × Option Value × Option Value × Option Value × Option Value × Option Value × Option Value × Option Value) (fun t s => zv_m zt_X9_layCosts (zv_ev (dp + 1)) false 41 [some (.ref 116), some (.ref 119), some (.int (nI (zT_n T))), some (.int (nI t)), s.2.1, s.2.2.1, s.2.2.2.1, s.2.2.2.2.1, s.2.2.2.2.2.1, s.2.2.2.2.2.2.1, s.2.2.2.2.2.2.2] [] zS0 (s.1, Dm.2)) (zT_n T) (fun t s => (∀ x, x ≠ 128 → s.1 x = Dm.1 x) ∧ zL_s s.1 T X (125 * t) ∧ ∀ i j, i < zT_n T → j < zT_n T → za_di (zX_co X) i j < 1000 → za_lv (zX_co X) j t i → zL_x s.1 X i j) (by
    rintro t ⟨s, v4, v5, v6, v7, v8, v9, v10⟩ ht ⟨hf, hs, hx⟩
    dsimp only at hf hs hx
    obtain ⟨⟨g3, u5, u6, u7, u8, u9, u10⟩, ⟨f3, s3, x3, y3⟩, r3⟩ := zl_up (σ := (Nat → Nat → Int32) × Option Value × Option Value × Option Value × Option Value × Option Value × Option Value) (fun k q => zv_m zt_X9_layCosts (zv_ev (dp + 1)) false 49 [some (.ref 116), some (.ref 119), some (.int (nI (zT_n T))), some (.int (nI t)), some (.int (nI k)), q.2.1, q.2.2.1, q.2.2.2.1, q.2.2.2.2.1, q.2.2.2.2.2.1, q.2.2.2.2.2.2] [] zS0 (q.1, Dm.2)) (zT_n T * zT_n T * zT_n T) (fun k q => (∀ x, x ≠ 128 → q.1 x = Dm.1 x) ∧ zL_s q.1 T X (125 * t + k) ∧ (∀ i j, i < zT_n T → j < zT_n T → za_di (zX_co X) i j < 1000 → za_lv (zX_co X) j t i → zL_x q.1 X i j) ∧ ∀ i w j, i < zT_n T → w < zT_n T → j < zT_n T → (i * zT_n T + w) * zT_n T + j < k → 0 < zX_co X (5 * i + w) → za_di (zX_co X) i j = zX_co X (5 * i + w) + za_di (zX_co X) w j → za_di (zX_co X) w j < 1000 → za_lv (zX_co X) j t w → zL_x q.1 X i j) (by
      rintro k ⟨gq, w5, w6, w7, w8, w9, w10⟩ hk ⟨kf, ks, kx, ky⟩
      dsimp only at kf ks kx ky
      obtain ⟨a1, a2, a3, a4⟩ := zt_all hk
      obtain ⟨g', z5, z6, z7, z8, z9, z10, ⟨l1, l2, l3, l4⟩, lr⟩ := zx_lay_119 (dp := dp) (g := gq) (h := Dm.2) (t := t) (b := 125 * t + k) hT hX (fun k hk => (congrFun (kf 119 (by decide)) _).trans (hR.2.2.2.2.2.1 k hk)) a2 a3 a4 ks (by omega) w5 w6 w7 w8 w9 w10
      rw [a1] at lr
      refine ⟨(g', z5, z6, z7, z8, z9, z10), ⟨fun x hx => (l1 x hx).trans (kf x hx), l2, fun i j hi hj hd hl => l3 i j (by omega) (by omega) hi hj (kx i j hi hj hd hl), fun i w j hi hw hj hlt hc he hd hl => ?_⟩, lr⟩
      by_cases hidx : (i * zT_n T + w) * zT_n T + j = k
      · obtain ⟨e1, e2, e3⟩ := zt_idx (by omega) hw hj hidx
        rw [← e1, ← e2, ← e3] at l4
        exact l4 hc he (kx w j hw hj hd hl)
      · exact l3 i j (by omega) (by omega) hi hj (ky i w j hi hw hj (by omega) hc he hd hl)) (s, v5, v6, v7, v8, v9, v10) ⟨hf, hs, hx, fun i w j _ _ _ hlt => absurd hlt (Nat.not_lt_zero _)⟩
    dsimp only at f3 s3 x3 y3 r3
    have hst := zd_X9_layCosts_p119_41 (zv_ev (dp + 1)) s Dm.2 (nI (zT_n T)) (nI t) v4 v5 v6 v7 v8 v9 v10
    rw [if_neg (nI_ge ht (by omega))] at hst
    have hst2 := zd_X9_layCosts_p119_49 (zv_ev (dp + 1)) g3 Dm.2 (nI (zT_n T)) (nI t) (nI (zT_n T * zT_n T * zT_n T)) u5 u6 u7 u8 u9 u10
    rw [pk_mul, pk_mul, if_pos (nI_le (Nat.le_refl _) (by omega)), nI_1] at hst2
    refine ⟨(g3, _, u5, u6, u7, u8, u9, u10), ⟨f3, zL_s_mono s3 (by omega), fun i j hi hj hd hl => ?_⟩, hst.trans (r3.trans hst2)⟩
    rcases hl with hl | ⟨w, w1, w2, w3, w4⟩
    · subst hl
      exact x3 i i hi hj hd (za_lv_self _ _ _)
    · have hw : w < zT_n T := by
        refine Nat.lt_of_not_le fun hle => ?_
        have := hX.2.1 i w (by omega) w1 (Or.inr (Or.inl hle))
        omega
      refine y3 i w j hi hw hj ?_ w2 w3 (by omega) w4
      have b1 : i * zT_n T + w + 1 ≤ zT_n T * zT_n T := by
        have := Nat.mul_le_mul_right (zT_n T) (show i + 1 ≤ zT_n T by omega)
        rw [Nat.add_mul, Nat.one_mul] at this
        omega
      have := Nat.mul_le_mul_right (zT_n T) b1
      rw [Nat.add_mul (i * zT_n T + w), Nat.one_mul] at this
      omega) (g1, none, none, none, none, none, none, none) ⟨f1, fun i j hi hj => by
        have e := i1 (5 * i + j) (by omega)
        by_cases hij : i = j
        · subst hij
          rw [if_pos (by omega)] at e
          exact Or.inr ⟨0, e, by omega, by rw [za_di_self]; exact Nat.le_refl _, by rw [za_di_self]; decide⟩
        · rw [if_neg (by omega)] at e
          exact Or.inl e, fun i j hi hj hd hl => by
        have hl' : i = j := hl
        subst hl'
        unfold zL_x
        rw [za_di_self]
        have e := i1 (5 * i + i) (by omega)
        rw [if_pos (by omega)] at e
        exact e⟩
  dsimp only at f2 s2 x2 r1 r2
  refine ⟨g2, f2, fun i j hi hj => ?_, zs_X9_layCosts_p119 ((zd_X9_layCosts_p119 _ Dm.1 Dm.2).trans ?_)⟩
  · by_cases hd : za_di (zX_co X) i j < 1000
    · rw [if_pos hd]
      exact x2 i j hi hj hd (za_lv_n hT hX hj hd)
    · rw [if_neg hd]
      rcases s2 i j hi hj with q | ⟨v, -, -, -, q⟩
      · exact q
      · exact absurd q hd
  · rw [c0]
    refine r1.trans ?_
    rw [zd_X9_layCosts_p119_6, if_pos (zi_le 25 25 rfl (by decide) (by decide))]
    refine r2.trans ?_
    rw [zd_X9_layCosts_p119_41, if_pos (nI_le (Nat.le_refl _) (by omega))]
theorem ev_layCosts_120 {dp : Nat} {Dm : zv_D} {T : zT} {X : zX} {A : zA} (hT : zT_ok T) (hX : zX_ok T X) (hR : zM_R (Dm.1 120) T X A) :
    ∃ g', (∀ x, x ≠ 128 → g' x = Dm.1 x) ∧ zM_K g' T X ∧ zv_ev (dp + 2) 151 [.ref 116, .ref 120] zS0 Dm = zo_v (g', Dm.2) := by
  have h5 := hT.2.1
  have n1 := hT.1
  have c0 : Dm.1 120 0 = nI (zT_n T) := hR.1
  have nn : zT_n T * zT_n T ≤ 25 := Nat.mul_le_mul h5 h5
  have nnn : zT_n T * zT_n T * zT_n T ≤ 125 := Nat.mul_le_mul nn h5
  -- the first row
  obtain ⟨g1, ⟨f1, i1⟩, r1⟩ := zl_up (fun k (s : Nat → Nat → Int32) => zv_m zt_X9_layCosts (zv_ev (dp + 1)) false 6 [some (.ref 116), some (.ref 120), some (.int (nI (zT_n T))), some (.int (nI k)), none, none, none, none, none, none, none] [] zS0 (s, Dm.2)) 25 (fun k s => (∀ x, x ≠ 128 → s x = Dm.1 x) ∧ ∀ q, q < k → s 128 q = if q / 5 = q % 5 then 0 else -9) (by
    intro k s hk ⟨hf, hi⟩
    have hst := zd_X9_layCosts_p120_6 (zv_ev (dp + 1)) s Dm.2 (nI (zT_n T)) (nI k) none none none none none none none
    have hd : nI k / 5 = nI (k / 5) := pk_div (d := 5) (by omega) (by decide) (by decide)
    have hr : nI k - nI (k / 5) * 5 = nI (k % 5) := by rw [← hd]; exact pk_rem (d := 5) (by omega) (by decide) (by decide)
    rw [if_neg (zi_ge 25 25 rfl hk (by decide)), hd, hr, zi_in hk (by decide), nI_clamp (by omega), nI_1] at hst
    simp only [cond_true] at hst
    have go : ∀ v : Int32, v = (if k / 5 = k % 5 then 0 else -9) → (∀ x, x ≠ 128 → zv_w s 128 k v x = Dm.1 x) ∧ ∀ q, q < k + 1 → zv_w s 128 k v 128 q = if q / 5 = q % 5 then 0 else -9 := by
      intro v hv
      refine ⟨fun x hx => (zw_cell _ _ _ hx).trans (hf x hx), fun q hq => ?_⟩
      by_cases hqk : q = k
      · subst hqk; rw [zw_same, hv]
      · rw [zw_other _ _ _ hqk]; exact hi q (by omega)
    by_cases hc : k / 5 = k % 5
    · rw [if_pos (by rw [hc])] at hst
      exact ⟨_, go 0 (by rw [if_pos hc]), hst⟩
    · rw [if_neg (fun z => hc ((nI_eq (by omega) (by omega)).mp z))] at hst
      exact ⟨_, go (-9) (by rw [if_neg hc]), hst⟩) Dm.1 ⟨fun _ _ => rfl, fun q hq => absurd hq (Nat.not_lt_zero q)⟩
  -- again and again
  obtain ⟨⟨g2, u2⟩, ⟨f2, s2, x2⟩, r2⟩ := zl_up (σ := (Nat → Nat → Int32) × Option Value × Option Value × Option Value × Option Value × Option Value × Option Value × Option Value) (fun t s => zv_m zt_X9_layCosts (zv_ev (dp + 1)) false 41 [some (.ref 116), some (.ref 120), some (.int (nI (zT_n T))), some (.int (nI t)), s.2.1, s.2.2.1, s.2.2.2.1, s.2.2.2.2.1, s.2.2.2.2.2.1, s.2.2.2.2.2.2.1, s.2.2.2.2.2.2.2] [] zS0 (s.1, Dm.2)) (zT_n T) (fun t s => (∀ x, x ≠ 128 → s.1 x = Dm.1 x) ∧ zL_s s.1 T X (125 * t) ∧ ∀ i j, i < zT_n T → j < zT_n T → za_di (zX_co X) i j < 1000 → za_lv (zX_co X) j t i → zL_x s.1 X i j) (by
    rintro t ⟨s, v4, v5, v6, v7, v8, v9, v10⟩ ht ⟨hf, hs, hx⟩
    dsimp only at hf hs hx
    obtain ⟨⟨g3, u5, u6, u7, u8, u9, u10⟩, ⟨f3, s3, x3, y3⟩, r3⟩ := zl_up (σ := (Nat → Nat → Int32) × Option Value × Option Value × Option Value × Option Value × Option Value × Option Value) (fun k q => zv_m zt_X9_layCosts (zv_ev (dp + 1)) false 49 [some (.ref 116), some (.ref 120), some (.int (nI (zT_n T))), some (.int (nI t)), some (.int (nI k)), q.2.1, q.2.2.1, q.2.2.2.1, q.2.2.2.2.1, q.2.2.2.2.2.1, q.2.2.2.2.2.2] [] zS0 (q.1, Dm.2)) (zT_n T * zT_n T * zT_n T) (fun k q => (∀ x, x ≠ 128 → q.1 x = Dm.1 x) ∧ zL_s q.1 T X (125 * t + k) ∧ (∀ i j, i < zT_n T → j < zT_n T → za_di (zX_co X) i j < 1000 → za_lv (zX_co X) j t i → zL_x q.1 X i j) ∧ ∀ i w j, i < zT_n T → w < zT_n T → j < zT_n T → (i * zT_n T + w) * zT_n T + j < k → 0 < zX_co X (5 * i + w) → za_di (zX_co X) i j = zX_co X (5 * i + w) + za_di (zX_co X) w j → za_di (zX_co X) w j < 1000 → za_lv (zX_co X) j t w → zL_x q.1 X i j) (by
      rintro k ⟨gq, w5, w6, w7, w8, w9, w10⟩ hk ⟨kf, ks, kx, ky⟩
      dsimp only at kf ks kx ky
      obtain ⟨a1, a2, a3, a4⟩ := zt_all hk
      obtain ⟨g', z5, z6, z7, z8, z9, z10, ⟨l1, l2, l3, l4⟩, lr⟩ := zx_lay_120 (dp := dp) (g := gq) (h := Dm.2) (t := t) (b := 125 * t + k) hT hX (fun k hk => (congrFun (kf 120 (by decide)) _).trans (hR.2.2.2.2.2.1 k hk)) a2 a3 a4 ks (by omega) w5 w6 w7 w8 w9 w10
      rw [a1] at lr
      refine ⟨(g', z5, z6, z7, z8, z9, z10), ⟨fun x hx => (l1 x hx).trans (kf x hx), l2, fun i j hi hj hd hl => l3 i j (by omega) (by omega) hi hj (kx i j hi hj hd hl), fun i w j hi hw hj hlt hc he hd hl => ?_⟩, lr⟩
      by_cases hidx : (i * zT_n T + w) * zT_n T + j = k
      · obtain ⟨e1, e2, e3⟩ := zt_idx (by omega) hw hj hidx
        rw [← e1, ← e2, ← e3] at l4
        exact l4 hc he (kx w j hw hj hd hl)
      · exact l3 i j (by omega) (by omega) hi hj (ky i w j hi hw hj (by omega) hc he hd hl)) (s, v5, v6, v7, v8, v9, v10) ⟨hf, hs, hx, fun i w j _ _ _ hlt => absurd hlt (Nat.not_lt_zero _)⟩
    dsimp only at f3 s3 x3 y3 r3
    have hst := zd_X9_layCosts_p120_41 (zv_ev (dp + 1)) s Dm.2 (nI (zT_n T)) (nI t) v4 v5 v6 v7 v8 v9 v10
    rw [if_neg (nI_ge ht (by omega))] at hst
    have hst2 := zd_X9_layCosts_p120_49 (zv_ev (dp + 1)) g3 Dm.2 (nI (zT_n T)) (nI t) (nI (zT_n T * zT_n T * zT_n T)) u5 u6 u7 u8 u9 u10
    rw [pk_mul, pk_mul, if_pos (nI_le (Nat.le_refl _) (by omega)), nI_1] at hst2
    refine ⟨(g3, _, u5, u6, u7, u8, u9, u10), ⟨f3, zL_s_mono s3 (by omega), fun i j hi hj hd hl => ?_⟩, hst.trans (r3.trans hst2)⟩
    rcases hl with hl | ⟨w, w1, w2, w3, w4⟩
    · subst hl
      exact x3 i i hi hj hd (za_lv_self _ _ _)
    · have hw : w < zT_n T := by
        refine Nat.lt_of_not_le fun hle => ?_
        have := hX.2.1 i w (by omega) w1 (Or.inr (Or.inl hle))
        omega
      refine y3 i w j hi hw hj ?_ w2 w3 (by omega) w4
      have b1 : i * zT_n T + w + 1 ≤ zT_n T * zT_n T := by
        have := Nat.mul_le_mul_right (zT_n T) (show i + 1 ≤ zT_n T by omega)
        rw [Nat.add_mul, Nat.one_mul] at this
        omega
      have := Nat.mul_le_mul_right (zT_n T) b1
      rw [Nat.add_mul (i * zT_n T + w), Nat.one_mul] at this
      omega) (g1, none, none, none, none, none, none, none) ⟨f1, fun i j hi hj => by
        have e := i1 (5 * i + j) (by omega)
        by_cases hij : i = j
        · subst hij
          rw [if_pos (by omega)] at e
          exact Or.inr ⟨0, e, by omega, by rw [za_di_self]; exact Nat.le_refl _, by rw [za_di_self]; decide⟩
        · rw [if_neg (by omega)] at e
          exact Or.inl e, fun i j hi hj hd hl => by
        have hl' : i = j := hl
        subst hl'
        unfold zL_x
        rw [za_di_self]
        have e := i1 (5 * i + i) (by omega)
        rw [if_pos (by omega)] at e
        exact e⟩
  dsimp only at f2 s2 x2 r1 r2
  refine ⟨g2, f2, fun i j hi hj => ?_, zs_X9_layCosts_p120 ((zd_X9_layCosts_p120 _ Dm.1 Dm.2).trans ?_)⟩
  · by_cases hd : za_di (zX_co X) i j < 1000
    · rw [if_pos hd]
      exact x2 i j hi hj hd (za_lv_n hT hX hj hd)
    · rw [if_neg hd]
      rcases s2 i j hi hj with q | ⟨v, -, -, -, q⟩
      · exact q
      · exact absurd q hd
  · rw [c0]
    refine r1.trans ?_
    rw [zd_X9_layCosts_p120_6, if_pos (zi_le 25 25 rfl (by decide) (by decide))]
    refine r2.trans ?_
    rw [zd_X9_layCosts_p120_41, if_pos (nI_le (Nat.le_refl _) (by omega))]
theorem ev_layCosts_121 {dp : Nat} {Dm : zv_D} {T : zT} {X : zX} {A : zA} (hT : zT_ok T) (hX : zX_ok T X) (hR : zM_R (Dm.1 121) T X A) :
    ∃ g', (∀ x, x ≠ 128 → g' x = Dm.1 x) ∧ zM_K g' T X ∧ zv_ev (dp + 2) 151 [.ref 116, .ref 121] zS0 Dm = zo_v (g', Dm.2) := by
  have h5 := hT.2.1
  have n1 := hT.1
  have c0 : Dm.1 121 0 = nI (zT_n T) := hR.1
  have nn : zT_n T * zT_n T ≤ 25 := Nat.mul_le_mul h5 h5
  have nnn : zT_n T * zT_n T * zT_n T ≤ 125 := Nat.mul_le_mul nn h5
  -- the first row
  obtain ⟨g1, ⟨f1, i1⟩, r1⟩ := zl_up (fun k (s : Nat → Nat → Int32) => zv_m zt_X9_layCosts (zv_ev (dp + 1)) false 6 [some (.ref 116), some (.ref 121), some (.int (nI (zT_n T))), some (.int (nI k)), none, none, none, none, none, none, none] [] zS0 (s, Dm.2)) 25 (fun k s => (∀ x, x ≠ 128 → s x = Dm.1 x) ∧ ∀ q, q < k → s 128 q = if q / 5 = q % 5 then 0 else -9) (by
    intro k s hk ⟨hf, hi⟩
    have hst := zd_X9_layCosts_p121_6 (zv_ev (dp + 1)) s Dm.2 (nI (zT_n T)) (nI k) none none none none none none none
    have hd : nI k / 5 = nI (k / 5) := pk_div (d := 5) (by omega) (by decide) (by decide)
    have hr : nI k - nI (k / 5) * 5 = nI (k % 5) := by rw [← hd]; exact pk_rem (d := 5) (by omega) (by decide) (by decide)
    rw [if_neg (zi_ge 25 25 rfl hk (by decide)), hd, hr, zi_in hk (by decide), nI_clamp (by omega), nI_1] at hst
    simp only [cond_true] at hst
    have go : ∀ v : Int32, v = (if k / 5 = k % 5 then 0 else -9) → (∀ x, x ≠ 128 → zv_w s 128 k v x = Dm.1 x) ∧ ∀ q, q < k + 1 → zv_w s 128 k v 128 q = if q / 5 = q % 5 then 0 else -9 := by
      intro v hv
      refine ⟨fun x hx => (zw_cell _ _ _ hx).trans (hf x hx), fun q hq => ?_⟩
      by_cases hqk : q = k
      · subst hqk; rw [zw_same, hv]
      · rw [zw_other _ _ _ hqk]; exact hi q (by omega)
    by_cases hc : k / 5 = k % 5
    · rw [if_pos (by rw [hc])] at hst
      exact ⟨_, go 0 (by rw [if_pos hc]), hst⟩
    · rw [if_neg (fun z => hc ((nI_eq (by omega) (by omega)).mp z))] at hst
      exact ⟨_, go (-9) (by rw [if_neg hc]), hst⟩) Dm.1 ⟨fun _ _ => rfl, fun q hq => absurd hq (Nat.not_lt_zero q)⟩
  -- again and again
  obtain ⟨⟨g2, u2⟩, ⟨f2, s2, x2⟩, r2⟩ := zl_up (σ := (Nat → Nat → Int32) × Option Value × Option Value × Option Value × Option Value × Option Value × Option Value × Option Value) (fun t s => zv_m zt_X9_layCosts (zv_ev (dp + 1)) false 41 [some (.ref 116), some (.ref 121), some (.int (nI (zT_n T))), some (.int (nI t)), s.2.1, s.2.2.1, s.2.2.2.1, s.2.2.2.2.1, s.2.2.2.2.2.1, s.2.2.2.2.2.2.1, s.2.2.2.2.2.2.2] [] zS0 (s.1, Dm.2)) (zT_n T) (fun t s => (∀ x, x ≠ 128 → s.1 x = Dm.1 x) ∧ zL_s s.1 T X (125 * t) ∧ ∀ i j, i < zT_n T → j < zT_n T → za_di (zX_co X) i j < 1000 → za_lv (zX_co X) j t i → zL_x s.1 X i j) (by
    rintro t ⟨s, v4, v5, v6, v7, v8, v9, v10⟩ ht ⟨hf, hs, hx⟩
    dsimp only at hf hs hx
    obtain ⟨⟨g3, u5, u6, u7, u8, u9, u10⟩, ⟨f3, s3, x3, y3⟩, r3⟩ := zl_up (σ := (Nat → Nat → Int32) × Option Value × Option Value × Option Value × Option Value × Option Value × Option Value) (fun k q => zv_m zt_X9_layCosts (zv_ev (dp + 1)) false 49 [some (.ref 116), some (.ref 121), some (.int (nI (zT_n T))), some (.int (nI t)), some (.int (nI k)), q.2.1, q.2.2.1, q.2.2.2.1, q.2.2.2.2.1, q.2.2.2.2.2.1, q.2.2.2.2.2.2] [] zS0 (q.1, Dm.2)) (zT_n T * zT_n T * zT_n T) (fun k q => (∀ x, x ≠ 128 → q.1 x = Dm.1 x) ∧ zL_s q.1 T X (125 * t + k) ∧ (∀ i j, i < zT_n T → j < zT_n T → za_di (zX_co X) i j < 1000 → za_lv (zX_co X) j t i → zL_x q.1 X i j) ∧ ∀ i w j, i < zT_n T → w < zT_n T → j < zT_n T → (i * zT_n T + w) * zT_n T + j < k → 0 < zX_co X (5 * i + w) → za_di (zX_co X) i j = zX_co X (5 * i + w) + za_di (zX_co X) w j → za_di (zX_co X) w j < 1000 → za_lv (zX_co X) j t w → zL_x q.1 X i j) (by
      rintro k ⟨gq, w5, w6, w7, w8, w9, w10⟩ hk ⟨kf, ks, kx, ky⟩
      dsimp only at kf ks kx ky
      obtain ⟨a1, a2, a3, a4⟩ := zt_all hk
      obtain ⟨g', z5, z6, z7, z8, z9, z10, ⟨l1, l2, l3, l4⟩, lr⟩ := zx_lay_121 (dp := dp) (g := gq) (h := Dm.2) (t := t) (b := 125 * t + k) hT hX (fun k hk => (congrFun (kf 121 (by decide)) _).trans (hR.2.2.2.2.2.1 k hk)) a2 a3 a4 ks (by omega) w5 w6 w7 w8 w9 w10
      rw [a1] at lr
      refine ⟨(g', z5, z6, z7, z8, z9, z10), ⟨fun x hx => (l1 x hx).trans (kf x hx), l2, fun i j hi hj hd hl => l3 i j (by omega) (by omega) hi hj (kx i j hi hj hd hl), fun i w j hi hw hj hlt hc he hd hl => ?_⟩, lr⟩
      by_cases hidx : (i * zT_n T + w) * zT_n T + j = k
      · obtain ⟨e1, e2, e3⟩ := zt_idx (by omega) hw hj hidx
        rw [← e1, ← e2, ← e3] at l4
        exact l4 hc he (kx w j hw hj hd hl)
      · exact l3 i j (by omega) (by omega) hi hj (ky i w j hi hw hj (by omega) hc he hd hl)) (s, v5, v6, v7, v8, v9, v10) ⟨hf, hs, hx, fun i w j _ _ _ hlt => absurd hlt (Nat.not_lt_zero _)⟩
    dsimp only at f3 s3 x3 y3 r3
    have hst := zd_X9_layCosts_p121_41 (zv_ev (dp + 1)) s Dm.2 (nI (zT_n T)) (nI t) v4 v5 v6 v7 v8 v9 v10
    rw [if_neg (nI_ge ht (by omega))] at hst
    have hst2 := zd_X9_layCosts_p121_49 (zv_ev (dp + 1)) g3 Dm.2 (nI (zT_n T)) (nI t) (nI (zT_n T * zT_n T * zT_n T)) u5 u6 u7 u8 u9 u10
    rw [pk_mul, pk_mul, if_pos (nI_le (Nat.le_refl _) (by omega)), nI_1] at hst2
    refine ⟨(g3, _, u5, u6, u7, u8, u9, u10), ⟨f3, zL_s_mono s3 (by omega), fun i j hi hj hd hl => ?_⟩, hst.trans (r3.trans hst2)⟩
    rcases hl with hl | ⟨w, w1, w2, w3, w4⟩
    · subst hl
      exact x3 i i hi hj hd (za_lv_self _ _ _)
    · have hw : w < zT_n T := by
        refine Nat.lt_of_not_le fun hle => ?_
        have := hX.2.1 i w (by omega) w1 (Or.inr (Or.inl hle))
        omega
      refine y3 i w j hi hw hj ?_ w2 w3 (by omega) w4
      have b1 : i * zT_n T + w + 1 ≤ zT_n T * zT_n T := by
        have := Nat.mul_le_mul_right (zT_n T) (show i + 1 ≤ zT_n T by omega)
        rw [Nat.add_mul, Nat.one_mul] at this
        omega
      have := Nat.mul_le_mul_right (zT_n T) b1
      rw [Nat.add_mul (i * zT_n T + w), Nat.one_mul] at this
      omega) (g1, none, none, none, none, none, none, none) ⟨f1, fun i j hi hj => by
        have e := i1 (5 * i + j) (by omega)
        by_cases hij : i = j
        · subst hij
          rw [if_pos (by omega)] at e
          exact Or.inr ⟨0, e, by omega, by rw [za_di_self]; exact Nat.le_refl _, by rw [za_di_self]; decide⟩
        · rw [if_neg (by omega)] at e
          exact Or.inl e, fun i j hi hj hd hl => by
        have hl' : i = j := hl
        subst hl'
        unfold zL_x
        rw [za_di_self]
        have e := i1 (5 * i + i) (by omega)
        rw [if_pos (by omega)] at e
        exact e⟩
  dsimp only at f2 s2 x2 r1 r2
  refine ⟨g2, f2, fun i j hi hj => ?_, zs_X9_layCosts_p121 ((zd_X9_layCosts_p121 _ Dm.1 Dm.2).trans ?_)⟩
  · by_cases hd : za_di (zX_co X) i j < 1000
    · rw [if_pos hd]
      exact x2 i j hi hj hd (za_lv_n hT hX hj hd)
    · rw [if_neg hd]
      rcases s2 i j hi hj with q | ⟨v, -, -, -, q⟩
      · exact q
      · exact absurd q hd
  · rw [c0]
    refine r1.trans ?_
    rw [zd_X9_layCosts_p121_6, if_pos (zi_le 25 25 rfl (by decide) (by decide))]
    refine r2.trans ?_
    rw [zd_X9_layCosts_p121_41, if_pos (nI_le (Nat.le_refl _) (by omega))]
