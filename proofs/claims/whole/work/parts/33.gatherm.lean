theorem za_h1_he {T : zT} {X : zX} {i j c : Nat} {off : Nat → Nat} (h : za_ok T X i j c = true) : za_h1 T X i j c off = zf_he off (zc_e c) j (zc_m c ||| 2 ^ j) := by
  unfold za_h1 zf_he
  rw [if_pos h]
  funext e
  unfold za_be
  by_cases hb : off (zc_e c) = 0 ∨ za_pc (zc_m c ||| 2 ^ j) < za_pc (zc_m (off (zc_e c)))
  · rw [if_pos (by simpa using hb)]
    by_cases he : e = zc_e c
    · subst he; rw [if_pos rfl, if_pos ⟨rfl, hb⟩]
    · rw [if_neg he, if_neg (fun z => he z.1)]
  · rw [if_neg (by simpa using hb), if_neg (fun z => hb z.2)]
/-- one choice is looked at -/
theorem zx_gather_119 {dp : Nat} {g : Nat → Nat → Int32} {h : Nat → Nat → Int64} {T : zT} {X : zX} {A : zA} {i j k n : Nat} {off : Nat → Nat} (hT : zT_ok T) (hR : zM_R (g 119) T X A) (hK : zM_K g T X) (hW : za_W T A) (hi : i < zT_n T) (hj : j < zT_n T) (hk : k < 2) (hO : zM_O g off) (hF : za_F T i off n) (hn : n ≤ j + 1) (u4 u5 u6 u7 : Option Value) :
    ∃ g' v4 v5 v6 v7, (∀ x, x ≠ 129 → x ≠ 130 → g' x = g x) ∧ zM_O g' (za_h1 T X i j (A j k) off) ∧ zv_m zt_X9_gather (zv_ev (dp + 2)) false 64 [some (.ref 116), some (.ref 119), some (.int (nI i)), some (.int (nI (2 * j + k))), u4, u5, u6, u7] [] zS0 (g, h) = zv_m zt_X9_gather (zv_ev (dp + 2)) false 64 [some (.ref 116), some (.ref 119), some (.int (nI i)), some (.int (nI (2 * j + k + 1))), v4, v5, v6, v7] [] zS0 (g', h) := by
  have h5 := hT.2.1
  have hA := hW.1 j k
  have hd : nI (2 * j + k) / 2 = nI j := by
    have := pk_div (a := 2 * j + k) (d := 2) (by omega) (by decide) (by decide)
    rw [show (2 * j + k) / 2 = j by omega] at this
    exact this
  have hr : nI (2 * j + k) - nI j * 2 = nI k := by
    have := pk_rem (a := 2 * j + k) (d := 2) (by omega) (by decide) (by decide)
    rw [show (2 * j + k) % 2 = k by omega, show nI (2 * j + k) / nI 2 = nI j from hd] at this
    exact this
  have hst := zd_X9_gather_p119_64 (zv_ev (dp + 2)) g h (nI i) (nI (2 * j + k)) u4 u5 u6 u7
  have c0 : g 119 0 = nI (zT_n T) := hR.1
  rw [c0, show (2 : Int32) * nI (zT_n T) = nI (2 * zT_n T) from pk_mul 2 _, if_neg (nI_ge (by omega) (by omega)), hd, hr, ev_at (dp := dp + 1) (g, h), zx_at, nI_1, zi_sh (by omega)] at hst
  simp only [Option.bind_some] at hst
  by_cases b0 : j = i
  · rw [if_pos (by rw [b0])] at hst
    have hno : za_ok T X i j (A j k) = false := by
      unfold za_ok
      rw [b0, za_te_self hT (by omega)]
      simp
    exact ⟨g, _, _, _, _, fun _ _ _ => rfl, by rw [za_h1_no hno]; exact hO, hst⟩
  rw [if_neg (fun z => b0 ((nI_eq (by omega) (by omega)).mp z)), ev_isTold_119 (dp := dp) (Dm := (g, h)) hT hR hA (by omega) (by omega) hk] at hst
  simp only [Option.bind_some] at hst
  by_cases b1 : (decide (A j k ≠ 0) && za_te T j i (zc_f (A j k))) = true
  · rw [if_pos b1, if_neg (by decide), zx_add _ 2 2 rfl, zi_in (n := 101) (by omega) (by decide), zi_in (n := 101) (by omega) (by decide), nI_clamp (by omega), nI_clamp (by omega)] at hst
    have hch := hR.2.2.2.2.2.2.2.2 j k (by omega) hk
    simp only [Bool.and_eq_true, decide_eq_true_eq] at b1
    have hel := zc_e_lt (A j k)
    have hml := zc_m_lt (A j k)
    have hmj := zo32 hml (by omega : j < 5)
    have hj2 : 2 ^ j < 2048 := by
      have : 2 ^ j ≤ 2 ^ 4 := Nat.pow_le_pow_right (by decide) (by omega)
      omega
    have hem : zc_e (A j k) < zT_m T := by
      rcases hA with q | q
      · exact absurd q b1.1
      · exact q.2.2.1
    have hpn := hT.2.2.2.2.2.2.2.1 _ hem
    simp only [cond_true] at hst
    rw [hch.1, hch.2.2, zm_v1 b1.1, zm_v1 b1.1, show (0 : Int32) = nI 0 from rfl, ev_mexitOf_119 (dp := dp + 1) (g, h) hel (by decide)] at hst
    simp only [Option.bind_some] at hst
    rw [(hR.2.2.2.2.2.2.2.1 _ hem).1, zx_5, zi_in (n := 25) (by omega) (by decide), nI_clamp (by omega), hK i _ hi hpn, zi_or (by omega) hj2, cond_true, zi_has (dp := dp + 1) (g, h) (by omega) (by omega)] at hst
    simp only [Option.bind_some] at hst
    by_cases b2 : za_di (zX_co X) i (zT_pl T (zc_e (A j k))) < 1000
    · rw [if_pos b2, if_neg (zi_ne9 (by omega))] at hst
      by_cases b3 : (zc_m (A j k) ||| 2 ^ j).testBit i = true
      · rw [if_pos b3, if_neg (by decide)] at hst
        have hno : za_ok T X i j (A j k) = false := by unfold za_ok; simp [b3]
        exact ⟨g, _, _, _, _, fun _ _ _ => rfl, by rw [za_h1_no hno]; exact hO, hst⟩
      · rw [if_neg b3, if_pos (show (0 : Int32) = nI 0 from rfl)] at hst
        have hyes : za_ok T X i j (A j k) = true := by
          unfold za_ok za_nr
          simp only [Bool.not_eq_true] at b3
          rw [b1.2, b3]
          simp [b1.1, hem, b2]
        obtain ⟨g', q1, q2, q3⟩ := ev_hear (dp := dp) (Dm := (g, h)) (off := off) (j := j) hel (by omega) hmj hO (fun ho hp => by
          obtain ⟨-, -, f, mk, r1, r2, r3, r4⟩ := hF _ ho
          rw [r1, zc_mk r3] at hp
          rw [r1, zc_fk (by omega) r3]
          rcases r4 with r4 | r4
          · rw [r4.2.1] at hp
            have := za_pc_pos (s := zc_m (A j k)) (j := j) (by omega)
            rw [hp] at this
            exact absurd this (by decide)
          · omega)
        rw [hch.1, zm_v1 b1.1, q3] at hst
        simp only [Option.bind_some, cond_true] at hst
        exact ⟨g', _, _, _, _, q1, by rw [za_h1_he hyes]; exact q2, hst⟩
    · rw [if_neg b2, if_pos rfl] at hst
      have hno : za_ok T X i j (A j k) = false := by unfold za_ok za_nr; simp [b2]
      by_cases b3 : (zc_m (A j k) ||| 2 ^ j).testBit i = true
      · rw [if_pos b3, if_neg (by decide)] at hst
        exact ⟨g, _, _, _, _, fun _ _ _ => rfl, by rw [za_h1_no hno]; exact hO, hst⟩
      · rw [if_neg b3, if_pos (show (0 : Int32) = nI 0 from rfl)] at hst
        exact ⟨g, _, _, _, _, fun _ _ _ => rfl, by rw [za_h1_no hno]; exact hO, hst⟩
  · rw [if_neg b1, if_pos rfl] at hst
    have hno : za_ok T X i j (A j k) = false := by
      unfold za_ok
      simp only [Bool.and_eq_true, decide_eq_true_eq, not_and, Bool.not_eq_true] at b1
      by_cases q : A j k = 0
      · simp [q]
      · simp [b1 q]
    exact ⟨g, _, _, _, _, fun _ _ _ => rfl, by rw [za_h1_no hno]; exact hO, hst⟩
theorem ev_gather_119 {dp : Nat} {Dm : zv_D} {T : zT} {X : zX} {A : zA} {i : Nat} (hT : zT_ok T) (hX : zX_ok T X) (hR : zM_R (Dm.1 119) T X A) (hK : zM_K Dm.1 T X) (hW : za_W T A) (hi : i < zT_n T) :
    ∃ g', (∀ x, x ≠ 129 → x ≠ 130 → g' x = Dm.1 x) ∧ zM_O g' (za_hd T X A i) ∧ zv_ev (dp + 3) 159 [.ref 116, .ref 119, .int (nI i)] zS0 Dm = zo_v (g', Dm.2) := by
  have h5 := hT.2.1
  have h4 := hT.2.2.1
  have c0 : Dm.1 119 0 = nI (zT_n T) := hR.1
  have c1 : Dm.1 119 1 = nI (zT_m T) := hR.2.1
  have c2 : Dm.1 119 2 = nI (zX_up X) := hR.2.2.1
  have hup : zX_up X < 16 := by
    have h1 := hX.2.2.2.2.1
    have : 2 ^ zT_m T ≤ 2 ^ 4 := Nat.pow_le_pow_right (by decide) h4
    omega
  -- the own ones
  obtain ⟨g1, ⟨f1, o1⟩, r1⟩ := zl_up (fun k (g' : Nat → Nat → Int32) => zv_m zt_X9_gather (zv_ev (dp + 2)) false 2 [some (.ref 116), some (.ref 119), some (.int (nI i)), some (.int (nI k)), none, none, none, none] [] zS0 (g', Dm.2)) 4 (fun k g' => (∀ x, x ≠ 129 → x ≠ 130 → g' x = Dm.1 x) ∧ ∀ e, e < k → g' 129 e = zm_v (za_o0 T X i e) (zc_f (za_o0 T X i e)) ∧ g' 130 e = nI (if za_o0 T X i e = 0 then 0 else zc_m (za_o0 T X i e))) (by
    intro k g' hk ⟨hf, ho⟩
    have hst := zd_X9_gather_p119_2 (zv_ev (dp + 2)) g' Dm.2 (nI i) (nI k) none none none none
    have w1 : ∀ x, x ≠ 129 → x ≠ 130 → zv_w (zv_w g' 129 k (-9)) 130 k 0 x = Dm.1 x := fun x h1 h2 => (zw_cell _ _ _ h2).trans ((zw_cell _ _ _ h1).trans (hf x h1 h2))
    rw [if_neg (zi_ge 4 4 rfl hk (by decide)), zi_in hk (by decide), nI_clamp (by omega), nI_1, w1 119 (by decide) (by decide), c1, c2] at hst
    simp only [cond_true] at hst
    have none' : za_o0 T X i k = 0 → (∀ x, x ≠ 129 → x ≠ 130 → zv_w (zv_w g' 129 k (-9)) 130 k 0 x = Dm.1 x) ∧ ∀ e, e < k + 1 → zv_w (zv_w g' 129 k (-9)) 130 k 0 129 e = zm_v (za_o0 T X i e) (zc_f (za_o0 T X i e)) ∧ zv_w (zv_w g' 129 k (-9)) 130 k 0 130 e = nI (if za_o0 T X i e = 0 then 0 else zc_m (za_o0 T X i e)) := by
      intro hz
      refine ⟨w1, fun e he => ?_⟩
      by_cases hek : e = k
      · subst hek
        rw [zw_cell _ _ _ (by decide), zw_same, zw_same, zm_v0 hz, if_pos hz]
        exact ⟨rfl, rfl⟩
      · rw [zw_cell _ _ _ (by decide), zw_other _ _ _ hek, zw_other _ _ _ hek, zw_cell _ _ _ (by decide)]
        exact ho e (by omega)
    by_cases b1 : zT_m T ≤ k
    · rw [if_pos (nI_le b1 (by omega))] at hst
      refine ⟨_, none' ?_, hst⟩
      unfold za_o0
      rw [if_neg (fun z => by have := z.2; unfold za_ow za_at at this; simp only [Bool.and_eq_true, decide_eq_true_eq] at this; omega)]
    rw [if_neg (nI_ge (by omega) (by omega)), zi_has (dp := dp + 1) (zv_w (zv_w g' 129 k (-9)) 130 k 0, Dm.2) (by omega) (by omega)] at hst
    simp only [Option.bind_some] at hst
    by_cases b2 : (zX_up X).testBit k = true
    · rw [if_pos b2, if_neg (by decide), show (0 : Int32) = nI 0 from rfl, ev_mexitOf_119 (dp := dp + 1) (zv_w (zv_w g' 129 k (-9)) 130 k (nI 0), Dm.2) hk (by decide)] at hst
      simp only [Option.bind_some] at hst
      have hpl : zv_w (zv_w g' 129 k (-9)) 130 k (nI 0) 119 (55 + 4 * k + 0) = nI (zT_pl T k) := (congrFun (w1 119 (by decide) (by decide)) _).trans (hR.2.2.2.2.2.2.2.1 k (by omega)).1
      rw [hpl] at hst
      have p5 := hT.2.2.2.2.2.2.1 k
      by_cases b3 : zT_pl T k = i
      · -- by hand: from is none, so it is put
        have hh := zd_X9_hear (zv_ev (dp + 1)) (zv_w (zv_w g' 129 k (-9)) 130 k (nI 0)) Dm.2 (nI k) (nI i) (nI 0)
        rw [zi_in hk (by decide), nI_clamp (by omega)] at hh
        simp only [cond_true] at hh
        rw [if_pos (by rw [zw_cell _ _ _ (by decide), zw_same])] at hh
        have hh2 : zv_ev (dp + 2) 158 [.ref 116, .int (nI k), .int (nI i), .int (nI 0)] zS0 (zv_w (zv_w g' 129 k (-9)) 130 k (nI 0), Dm.2) = zo_v (zv_w (zv_w (zv_w (zv_w g' 129 k (-9)) 130 k (nI 0)) 129 k (nI i)) 130 k (nI 0), Dm.2) := zs_X9_hear hh
        rw [if_pos (by rw [b3]), hh2] at hst
        simp only [Option.bind_some] at hst
        have hz : za_o0 T X i k = zc_k k i 0 := by
          unfold za_o0
          rw [if_pos ⟨hk, by unfold za_ow za_at; simp only [Bool.and_eq_true, decide_eq_true_eq]; exact ⟨⟨by omega, b3⟩, b2⟩⟩]
        refine ⟨_, ⟨fun x h1 h2 => (zw_cell _ _ _ h2).trans ((zw_cell _ _ _ h1).trans (w1 x h1 h2)), fun e he => ?_⟩, hst⟩
        by_cases hek : e = k
        · subst hek
          have := zc_k_ge e i 0
          rw [zw_cell _ _ _ (by decide), zw_same, zw_same, hz, zm_v1 (by omega), if_neg (by omega), zc_fk (by omega) (by decide), zc_mk (by decide)]
          exact ⟨rfl, rfl⟩
        · simp only [zw_at, hek, and_false, if_false]
          exact ho e (by omega)
      · rw [if_neg (fun z => b3 ((nI_eq (by omega) (by omega)).mp z))] at hst
        refine ⟨_, none' ?_, hst⟩
        unfold za_o0
        rw [if_neg (fun z => by have := z.2; unfold za_ow za_at at this; simp only [Bool.and_eq_true, decide_eq_true_eq] at this; exact b3 this.1.2)]
    · rw [if_neg b2, if_pos rfl] at hst
      refine ⟨_, none' ?_, hst⟩
      unfold za_o0
      rw [if_neg (fun z => by have := z.2; unfold za_ow at this; simp only [Bool.and_eq_true] at this; exact b2 this.2)]) Dm.1 ⟨fun _ _ _ => rfl, fun e he => absurd he (Nat.not_lt_zero e)⟩
  -- the others'
  obtain ⟨⟨g2, v4, v5, v6, v7⟩, ⟨f2, o2⟩, r2⟩ := zl_up (σ := (Nat → Nat → Int32) × Option Value × Option Value × Option Value × Option Value) (fun j s => zv_m zt_X9_gather (zv_ev (dp + 2)) false 64 [some (.ref 116), some (.ref 119), some (.int (nI i)), some (.int (nI (2 * j))), s.2.1, s.2.2.1, s.2.2.2.1, s.2.2.2.2] [] zS0 (s.1, Dm.2)) (zT_n T) (fun j s => (∀ x, x ≠ 129 → x ≠ 130 → s.1 x = Dm.1 x) ∧ zM_O s.1 (za_of T X A i j)) (by
    rintro j ⟨g', u4, u5, u6, u7⟩ hj ⟨hf, ho⟩
    dsimp only at hf ho
    have hR' : zM_R (g' 119) T X A := by rw [hf 119 (by decide) (by decide)]; exact hR
    have hK' : zM_K g' T X := fun a b ha hb => (congrFun (hf 128 (by decide) (by decide)) _).trans (hK a b ha hb)
    have F0 := za_Fn (X := X) hT hW hi j (by omega)
    obtain ⟨ga, a4, a5, a6, a7, q1, q2, q3⟩ := zx_gather_119 (dp := dp) (h := Dm.2) hT hR' hK' hW hi hj (by decide : 0 < 2) ho F0 (by omega) u4 u5 u6 u7
    have hR2 : zM_R (ga 119) T X A := by rw [q1 119 (by decide) (by decide)]; exact hR'
    have hK2 : zM_K ga T X := fun a b ha hb => (congrFun (q1 128 (by decide) (by decide)) _).trans (hK' a b ha hb)
    have F1 : za_F T i (za_h1 T X i j (A j 0) (za_of T X A i j)) (j + 1) := za_F1 hT hj (hW.1 j 0) F0 (by omega)
    obtain ⟨gb, b4, b5, b6, b7, q4, q5, q6⟩ := zx_gather_119 (dp := dp) (h := Dm.2) hT hR2 hK2 hW hi hj (by decide : 1 < 2) q2 F1 (Nat.le_refl _) a4 a5 a6 a7
    exact ⟨(gb, b4, b5, b6, b7), ⟨fun x h1 h2 => (q4 x h1 h2).trans ((q1 x h1 h2).trans (hf x h1 h2)), q5⟩, q3.trans q6⟩) (g1, none, none, none, none) ⟨f1, o1⟩
  dsimp only at f2 o2 r1 r2
  refine ⟨g2, f2, o2, zs_X9_gather_p119 ((zd_X9_gather_p119 _ Dm.1 Dm.2 _).trans (r1.trans ?_))⟩
  rw [zd_X9_gather_p119_2, if_pos (zi_le 4 4 rfl (by decide) (by decide))]
  refine r2.trans ?_
  rw [zd_X9_gather_p119_64, f2 119 (by decide) (by decide), c0, show (2 : Int32) * nI (zT_n T) = nI (2 * zT_n T) from pk_mul 2 _, if_pos (nI_le (Nat.le_refl _) (by omega))]
/-- one choice is looked at -/
theorem zx_gather_120 {dp : Nat} {g : Nat → Nat → Int32} {h : Nat → Nat → Int64} {T : zT} {X : zX} {A : zA} {i j k n : Nat} {off : Nat → Nat} (hT : zT_ok T) (hR : zM_R (g 120) T X A) (hK : zM_K g T X) (hW : za_W T A) (hi : i < zT_n T) (hj : j < zT_n T) (hk : k < 2) (hO : zM_O g off) (hF : za_F T i off n) (hn : n ≤ j + 1) (u4 u5 u6 u7 : Option Value) :
    ∃ g' v4 v5 v6 v7, (∀ x, x ≠ 129 → x ≠ 130 → g' x = g x) ∧ zM_O g' (za_h1 T X i j (A j k) off) ∧ zv_m zt_X9_gather (zv_ev (dp + 2)) false 64 [some (.ref 116), some (.ref 120), some (.int (nI i)), some (.int (nI (2 * j + k))), u4, u5, u6, u7] [] zS0 (g, h) = zv_m zt_X9_gather (zv_ev (dp + 2)) false 64 [some (.ref 116), some (.ref 120), some (.int (nI i)), some (.int (nI (2 * j + k + 1))), v4, v5, v6, v7] [] zS0 (g', h) := by
  have h5 := hT.2.1
  have hA := hW.1 j k
  have hd : nI (2 * j + k) / 2 = nI j := by
    have := pk_div (a := 2 * j + k) (d := 2) (by omega) (by decide) (by decide)
    rw [show (2 * j + k) / 2 = j by omega] at this
    exact this
  have hr : nI (2 * j + k) - nI j * 2 = nI k := by
    have := pk_rem (a := 2 * j + k) (d := 2) (by omega) (by decide) (by decide)
    rw [show (2 * j + k) % 2 = k by omega, show nI (2 * j + k) / nI 2 = nI j from hd] at this
    exact this
  have hst := zd_X9_gather_p120_64 (zv_ev (dp + 2)) g h (nI i) (nI (2 * j + k)) u4 u5 u6 u7
  have c0 : g 120 0 = nI (zT_n T) := hR.1
  rw [c0, show (2 : Int32) * nI (zT_n T) = nI (2 * zT_n T) from pk_mul 2 _, if_neg (nI_ge (by omega) (by omega)), hd, hr, ev_at (dp := dp + 1) (g, h), zx_at, nI_1, zi_sh (by omega)] at hst
  simp only [Option.bind_some] at hst
  by_cases b0 : j = i
  · rw [if_pos (by rw [b0])] at hst
    have hno : za_ok T X i j (A j k) = false := by
      unfold za_ok
      rw [b0, za_te_self hT (by omega)]
      simp
    exact ⟨g, _, _, _, _, fun _ _ _ => rfl, by rw [za_h1_no hno]; exact hO, hst⟩
  rw [if_neg (fun z => b0 ((nI_eq (by omega) (by omega)).mp z)), ev_isTold_120 (dp := dp) (Dm := (g, h)) hT hR hA (by omega) (by omega) hk] at hst
  simp only [Option.bind_some] at hst
  by_cases b1 : (decide (A j k ≠ 0) && za_te T j i (zc_f (A j k))) = true
  · rw [if_pos b1, if_neg (by decide), zx_add _ 2 2 rfl, zi_in (n := 101) (by omega) (by decide), zi_in (n := 101) (by omega) (by decide), nI_clamp (by omega), nI_clamp (by omega)] at hst
    have hch := hR.2.2.2.2.2.2.2.2 j k (by omega) hk
    simp only [Bool.and_eq_true, decide_eq_true_eq] at b1
    have hel := zc_e_lt (A j k)
    have hml := zc_m_lt (A j k)
    have hmj := zo32 hml (by omega : j < 5)
    have hj2 : 2 ^ j < 2048 := by
      have : 2 ^ j ≤ 2 ^ 4 := Nat.pow_le_pow_right (by decide) (by omega)
      omega
    have hem : zc_e (A j k) < zT_m T := by
      rcases hA with q | q
      · exact absurd q b1.1
      · exact q.2.2.1
    have hpn := hT.2.2.2.2.2.2.2.1 _ hem
    simp only [cond_true] at hst
    rw [hch.1, hch.2.2, zm_v1 b1.1, zm_v1 b1.1, show (0 : Int32) = nI 0 from rfl, ev_mexitOf_120 (dp := dp + 1) (g, h) hel (by decide)] at hst
    simp only [Option.bind_some] at hst
    rw [(hR.2.2.2.2.2.2.2.1 _ hem).1, zx_5, zi_in (n := 25) (by omega) (by decide), nI_clamp (by omega), hK i _ hi hpn, zi_or (by omega) hj2, cond_true, zi_has (dp := dp + 1) (g, h) (by omega) (by omega)] at hst
    simp only [Option.bind_some] at hst
    by_cases b2 : za_di (zX_co X) i (zT_pl T (zc_e (A j k))) < 1000
    · rw [if_pos b2, if_neg (zi_ne9 (by omega))] at hst
      by_cases b3 : (zc_m (A j k) ||| 2 ^ j).testBit i = true
      · rw [if_pos b3, if_neg (by decide)] at hst
        have hno : za_ok T X i j (A j k) = false := by unfold za_ok; simp [b3]
        exact ⟨g, _, _, _, _, fun _ _ _ => rfl, by rw [za_h1_no hno]; exact hO, hst⟩
      · rw [if_neg b3, if_pos (show (0 : Int32) = nI 0 from rfl)] at hst
        have hyes : za_ok T X i j (A j k) = true := by
          unfold za_ok za_nr
          simp only [Bool.not_eq_true] at b3
          rw [b1.2, b3]
          simp [b1.1, hem, b2]
        obtain ⟨g', q1, q2, q3⟩ := ev_hear (dp := dp) (Dm := (g, h)) (off := off) (j := j) hel (by omega) hmj hO (fun ho hp => by
          obtain ⟨-, -, f, mk, r1, r2, r3, r4⟩ := hF _ ho
          rw [r1, zc_mk r3] at hp
          rw [r1, zc_fk (by omega) r3]
          rcases r4 with r4 | r4
          · rw [r4.2.1] at hp
            have := za_pc_pos (s := zc_m (A j k)) (j := j) (by omega)
            rw [hp] at this
            exact absurd this (by decide)
          · omega)
        rw [hch.1, zm_v1 b1.1, q3] at hst
        simp only [Option.bind_some, cond_true] at hst
        exact ⟨g', _, _, _, _, q1, by rw [za_h1_he hyes]; exact q2, hst⟩
    · rw [if_neg b2, if_pos rfl] at hst
      have hno : za_ok T X i j (A j k) = false := by unfold za_ok za_nr; simp [b2]
      by_cases b3 : (zc_m (A j k) ||| 2 ^ j).testBit i = true
      · rw [if_pos b3, if_neg (by decide)] at hst
        exact ⟨g, _, _, _, _, fun _ _ _ => rfl, by rw [za_h1_no hno]; exact hO, hst⟩
      · rw [if_neg b3, if_pos (show (0 : Int32) = nI 0 from rfl)] at hst
        exact ⟨g, _, _, _, _, fun _ _ _ => rfl, by rw [za_h1_no hno]; exact hO, hst⟩
  · rw [if_neg b1, if_pos rfl] at hst
    have hno : za_ok T X i j (A j k) = false := by
      unfold za_ok
      simp only [Bool.and_eq_true, decide_eq_true_eq, not_and, Bool.not_eq_true] at b1
      by_cases q : A j k = 0
      · simp [q]
      · simp [b1 q]
    exact ⟨g, _, _, _, _, fun _ _ _ => rfl, by rw [za_h1_no hno]; exact hO, hst⟩
theorem ev_gather_120 {dp : Nat} {Dm : zv_D} {T : zT} {X : zX} {A : zA} {i : Nat} (hT : zT_ok T) (hX : zX_ok T X) (hR : zM_R (Dm.1 120) T X A) (hK : zM_K Dm.1 T X) (hW : za_W T A) (hi : i < zT_n T) :
    ∃ g', (∀ x, x ≠ 129 → x ≠ 130 → g' x = Dm.1 x) ∧ zM_O g' (za_hd T X A i) ∧ zv_ev (dp + 3) 159 [.ref 116, .ref 120, .int (nI i)] zS0 Dm = zo_v (g', Dm.2) := by
  have h5 := hT.2.1
  have h4 := hT.2.2.1
  have c0 : Dm.1 120 0 = nI (zT_n T) := hR.1
  have c1 : Dm.1 120 1 = nI (zT_m T) := hR.2.1
  have c2 : Dm.1 120 2 = nI (zX_up X) := hR.2.2.1
  have hup : zX_up X < 16 := by
    have h1 := hX.2.2.2.2.1
    have : 2 ^ zT_m T ≤ 2 ^ 4 := Nat.pow_le_pow_right (by decide) h4
    omega
  -- the own ones
  obtain ⟨g1, ⟨f1, o1⟩, r1⟩ := zl_up (fun k (g' : Nat → Nat → Int32) => zv_m zt_X9_gather (zv_ev (dp + 2)) false 2 [some (.ref 116), some (.ref 120), some (.int (nI i)), some (.int (nI k)), none, none, none, none] [] zS0 (g', Dm.2)) 4 (fun k g' => (∀ x, x ≠ 129 → x ≠ 130 → g' x = Dm.1 x) ∧ ∀ e, e < k → g' 129 e = zm_v (za_o0 T X i e) (zc_f (za_o0 T X i e)) ∧ g' 130 e = nI (if za_o0 T X i e = 0 then 0 else zc_m (za_o0 T X i e))) (by
    intro k g' hk ⟨hf, ho⟩
    have hst := zd_X9_gather_p120_2 (zv_ev (dp + 2)) g' Dm.2 (nI i) (nI k) none none none none
    have w1 : ∀ x, x ≠ 129 → x ≠ 130 → zv_w (zv_w g' 129 k (-9)) 130 k 0 x = Dm.1 x := fun x h1 h2 => (zw_cell _ _ _ h2).trans ((zw_cell _ _ _ h1).trans (hf x h1 h2))
    rw [if_neg (zi_ge 4 4 rfl hk (by decide)), zi_in hk (by decide), nI_clamp (by omega), nI_1, w1 120 (by decide) (by decide), c1, c2] at hst
    simp only [cond_true] at hst
    have none' : za_o0 T X i k = 0 → (∀ x, x ≠ 129 → x ≠ 130 → zv_w (zv_w g' 129 k (-9)) 130 k 0 x = Dm.1 x) ∧ ∀ e, e < k + 1 → zv_w (zv_w g' 129 k (-9)) 130 k 0 129 e = zm_v (za_o0 T X i e) (zc_f (za_o0 T X i e)) ∧ zv_w (zv_w g' 129 k (-9)) 130 k 0 130 e = nI (if za_o0 T X i e = 0 then 0 else zc_m (za_o0 T X i e)) := by
      intro hz
      refine ⟨w1, fun e he => ?_⟩
      by_cases hek : e = k
      · subst hek
        rw [zw_cell _ _ _ (by decide), zw_same, zw_same, zm_v0 hz, if_pos hz]
        exact ⟨rfl, rfl⟩
      · rw [zw_cell _ _ _ (by decide), zw_other _ _ _ hek, zw_other _ _ _ hek, zw_cell _ _ _ (by decide)]
        exact ho e (by omega)
    by_cases b1 : zT_m T ≤ k
    · rw [if_pos (nI_le b1 (by omega))] at hst
      refine ⟨_, none' ?_, hst⟩
      unfold za_o0
      rw [if_neg (fun z => by have := z.2; unfold za_ow za_at at this; simp only [Bool.and_eq_true, decide_eq_true_eq] at this; omega)]
    rw [if_neg (nI_ge (by omega) (by omega)), zi_has (dp := dp + 1) (zv_w (zv_w g' 129 k (-9)) 130 k 0, Dm.2) (by omega) (by omega)] at hst
    simp only [Option.bind_some] at hst
    by_cases b2 : (zX_up X).testBit k = true
    · rw [if_pos b2, if_neg (by decide), show (0 : Int32) = nI 0 from rfl, ev_mexitOf_120 (dp := dp + 1) (zv_w (zv_w g' 129 k (-9)) 130 k (nI 0), Dm.2) hk (by decide)] at hst
      simp only [Option.bind_some] at hst
      have hpl : zv_w (zv_w g' 129 k (-9)) 130 k (nI 0) 120 (55 + 4 * k + 0) = nI (zT_pl T k) := (congrFun (w1 120 (by decide) (by decide)) _).trans (hR.2.2.2.2.2.2.2.1 k (by omega)).1
      rw [hpl] at hst
      have p5 := hT.2.2.2.2.2.2.1 k
      by_cases b3 : zT_pl T k = i
      · -- by hand: from is none, so it is put
        have hh := zd_X9_hear (zv_ev (dp + 1)) (zv_w (zv_w g' 129 k (-9)) 130 k (nI 0)) Dm.2 (nI k) (nI i) (nI 0)
        rw [zi_in hk (by decide), nI_clamp (by omega)] at hh
        simp only [cond_true] at hh
        rw [if_pos (by rw [zw_cell _ _ _ (by decide), zw_same])] at hh
        have hh2 : zv_ev (dp + 2) 158 [.ref 116, .int (nI k), .int (nI i), .int (nI 0)] zS0 (zv_w (zv_w g' 129 k (-9)) 130 k (nI 0), Dm.2) = zo_v (zv_w (zv_w (zv_w (zv_w g' 129 k (-9)) 130 k (nI 0)) 129 k (nI i)) 130 k (nI 0), Dm.2) := zs_X9_hear hh
        rw [if_pos (by rw [b3]), hh2] at hst
        simp only [Option.bind_some] at hst
        have hz : za_o0 T X i k = zc_k k i 0 := by
          unfold za_o0
          rw [if_pos ⟨hk, by unfold za_ow za_at; simp only [Bool.and_eq_true, decide_eq_true_eq]; exact ⟨⟨by omega, b3⟩, b2⟩⟩]
        refine ⟨_, ⟨fun x h1 h2 => (zw_cell _ _ _ h2).trans ((zw_cell _ _ _ h1).trans (w1 x h1 h2)), fun e he => ?_⟩, hst⟩
        by_cases hek : e = k
        · subst hek
          have := zc_k_ge e i 0
          rw [zw_cell _ _ _ (by decide), zw_same, zw_same, hz, zm_v1 (by omega), if_neg (by omega), zc_fk (by omega) (by decide), zc_mk (by decide)]
          exact ⟨rfl, rfl⟩
        · simp only [zw_at, hek, and_false, if_false]
          exact ho e (by omega)
      · rw [if_neg (fun z => b3 ((nI_eq (by omega) (by omega)).mp z))] at hst
        refine ⟨_, none' ?_, hst⟩
        unfold za_o0
        rw [if_neg (fun z => by have := z.2; unfold za_ow za_at at this; simp only [Bool.and_eq_true, decide_eq_true_eq] at this; exact b3 this.1.2)]
    · rw [if_neg b2, if_pos rfl] at hst
      refine ⟨_, none' ?_, hst⟩
      unfold za_o0
      rw [if_neg (fun z => by have := z.2; unfold za_ow at this; simp only [Bool.and_eq_true] at this; exact b2 this.2)]) Dm.1 ⟨fun _ _ _ => rfl, fun e he => absurd he (Nat.not_lt_zero e)⟩
  -- the others'
  obtain ⟨⟨g2, v4, v5, v6, v7⟩, ⟨f2, o2⟩, r2⟩ := zl_up (σ := (Nat → Nat → Int32) × Option Value × Option Value × Option Value × Option Value) (fun j s => zv_m zt_X9_gather (zv_ev (dp + 2)) false 64 [some (.ref 116), some (.ref 120), some (.int (nI i)), some (.int (nI (2 * j))), s.2.1, s.2.2.1, s.2.2.2.1, s.2.2.2.2] [] zS0 (s.1, Dm.2)) (zT_n T) (fun j s => (∀ x, x ≠ 129 → x ≠ 130 → s.1 x = Dm.1 x) ∧ zM_O s.1 (za_of T X A i j)) (by
    rintro j ⟨g', u4, u5, u6, u7⟩ hj ⟨hf, ho⟩
    dsimp only at hf ho
    have hR' : zM_R (g' 120) T X A := by rw [hf 120 (by decide) (by decide)]; exact hR
    have hK' : zM_K g' T X := fun a b ha hb => (congrFun (hf 128 (by decide) (by decide)) _).trans (hK a b ha hb)
    have F0 := za_Fn (X := X) hT hW hi j (by omega)
    obtain ⟨ga, a4, a5, a6, a7, q1, q2, q3⟩ := zx_gather_120 (dp := dp) (h := Dm.2) hT hR' hK' hW hi hj (by decide : 0 < 2) ho F0 (by omega) u4 u5 u6 u7
    have hR2 : zM_R (ga 120) T X A := by rw [q1 120 (by decide) (by decide)]; exact hR'
    have hK2 : zM_K ga T X := fun a b ha hb => (congrFun (q1 128 (by decide) (by decide)) _).trans (hK' a b ha hb)
    have F1 : za_F T i (za_h1 T X i j (A j 0) (za_of T X A i j)) (j + 1) := za_F1 hT hj (hW.1 j 0) F0 (by omega)
    obtain ⟨gb, b4, b5, b6, b7, q4, q5, q6⟩ := zx_gather_120 (dp := dp) (h := Dm.2) hT hR2 hK2 hW hi hj (by decide : 1 < 2) q2 F1 (Nat.le_refl _) a4 a5 a6 a7
    exact ⟨(gb, b4, b5, b6, b7), ⟨fun x h1 h2 => (q4 x h1 h2).trans ((q1 x h1 h2).trans (hf x h1 h2)), q5⟩, q3.trans q6⟩) (g1, none, none, none, none) ⟨f1, o1⟩
  dsimp only at f2 o2 r1 r2
  refine ⟨g2, f2, o2, zs_X9_gather_p120 ((zd_X9_gather_p120 _ Dm.1 Dm.2 _).trans (r1.trans ?_))⟩
  rw [zd_X9_gather_p120_2, if_pos (zi_le 4 4 rfl (by decide) (by decide))]
  refine r2.trans ?_
  rw [zd_X9_gather_p120_64, f2 120 (by decide) (by decide), c0, show (2 : Int32) * nI (zT_n T) = nI (2 * zT_n T) from pk_mul 2 _, if_pos (nI_le (Nat.le_refl _) (by omega))]
/-- one choice is looked at -/
theorem zx_gather_121 {dp : Nat} {g : Nat → Nat → Int32} {h : Nat → Nat → Int64} {T : zT} {X : zX} {A : zA} {i j k n : Nat} {off : Nat → Nat} (hT : zT_ok T) (hR : zM_R (g 121) T X A) (hK : zM_K g T X) (hW : za_W T A) (hi : i < zT_n T) (hj : j < zT_n T) (hk : k < 2) (hO : zM_O g off) (hF : za_F T i off n) (hn : n ≤ j + 1) (u4 u5 u6 u7 : Option Value) :
    ∃ g' v4 v5 v6 v7, (∀ x, x ≠ 129 → x ≠ 130 → g' x = g x) ∧ zM_O g' (za_h1 T X i j (A j k) off) ∧ zv_m zt_X9_gather (zv_ev (dp + 2)) false 64 [some (.ref 116), some (.ref 121), some (.int (nI i)), some (.int (nI (2 * j + k))), u4, u5, u6, u7] [] zS0 (g, h) = zv_m zt_X9_gather (zv_ev (dp + 2)) false 64 [some (.ref 116), some (.ref 121), some (.int (nI i)), some (.int (nI (2 * j + k + 1))), v4, v5, v6, v7] [] zS0 (g', h) := by
  have h5 := hT.2.1
  have hA := hW.1 j k
  have hd : nI (2 * j + k) / 2 = nI j := by
    have := pk_div (a := 2 * j + k) (d := 2) (by omega) (by decide) (by decide)
    rw [show (2 * j + k) / 2 = j by omega] at this
    exact this
  have hr : nI (2 * j + k) - nI j * 2 = nI k := by
    have := pk_rem (a := 2 * j + k) (d := 2) (by omega) (by decide) (by decide)
    rw [show (2 * j + k) % 2 = k by omega, show nI (2 * j + k) / nI 2 = nI j from hd] at this
    exact this
  have hst := zd_X9_gather_p121_64 (zv_ev (dp + 2)) g h (nI i) (nI (2 * j + k)) u4 u5 u6 u7
  have c0 : g 121 0 = nI (zT_n T) := hR.1
  rw [c0, show (2 : Int32) * nI (zT_n T) = nI (2 * zT_n T) from pk_mul 2 _, if_neg (nI_ge (by omega) (by omega)), hd, hr, ev_at (dp := dp + 1) (g, h), zx_at, nI_1, zi_sh (by omega)] at hst
  simp only [Option.bind_some] at hst
  by_cases b0 : j = i
  · rw [if_pos (by rw [b0])] at hst
    have hno : za_ok T X i j (A j k) = false := by
      unfold za_ok
      rw [b0, za_te_self hT (by omega)]
      simp
    exact ⟨g, _, _, _, _, fun _ _ _ => rfl, by rw [za_h1_no hno]; exact hO, hst⟩
  rw [if_neg (fun z => b0 ((nI_eq (by omega) (by omega)).mp z)), ev_isTold_121 (dp := dp) (Dm := (g, h)) hT hR hA (by omega) (by omega) hk] at hst
  simp only [Option.bind_some] at hst
  by_cases b1 : (decide (A j k ≠ 0) && za_te T j i (zc_f (A j k))) = true
  · rw [if_pos b1, if_neg (by decide), zx_add _ 2 2 rfl, zi_in (n := 101) (by omega) (by decide), zi_in (n := 101) (by omega) (by decide), nI_clamp (by omega), nI_clamp (by omega)] at hst
    have hch := hR.2.2.2.2.2.2.2.2 j k (by omega) hk
    simp only [Bool.and_eq_true, decide_eq_true_eq] at b1
    have hel := zc_e_lt (A j k)
    have hml := zc_m_lt (A j k)
    have hmj := zo32 hml (by omega : j < 5)
    have hj2 : 2 ^ j < 2048 := by
      have : 2 ^ j ≤ 2 ^ 4 := Nat.pow_le_pow_right (by decide) (by omega)
      omega
    have hem : zc_e (A j k) < zT_m T := by
      rcases hA with q | q
      · exact absurd q b1.1
      · exact q.2.2.1
    have hpn := hT.2.2.2.2.2.2.2.1 _ hem
    simp only [cond_true] at hst
    rw [hch.1, hch.2.2, zm_v1 b1.1, zm_v1 b1.1, show (0 : Int32) = nI 0 from rfl, ev_mexitOf_121 (dp := dp + 1) (g, h) hel (by decide)] at hst
    simp only [Option.bind_some] at hst
    rw [(hR.2.2.2.2.2.2.2.1 _ hem).1, zx_5, zi_in (n := 25) (by omega) (by decide), nI_clamp (by omega), hK i _ hi hpn, zi_or (by omega) hj2, cond_true, zi_has (dp := dp + 1) (g, h) (by omega) (by omega)] at hst
    simp only [Option.bind_some] at hst
    by_cases b2 : za_di (zX_co X) i (zT_pl T (zc_e (A j k))) < 1000
    · rw [if_pos b2, if_neg (zi_ne9 (by omega))] at hst
      by_cases b3 : (zc_m (A j k) ||| 2 ^ j).testBit i = true
      · rw [if_pos b3, if_neg (by decide)] at hst
        have hno : za_ok T X i j (A j k) = false := by unfold za_ok; simp [b3]
        exact ⟨g, _, _, _, _, fun _ _ _ => rfl, by rw [za_h1_no hno]; exact hO, hst⟩
      · rw [if_neg b3, if_pos (show (0 : Int32) = nI 0 from rfl)] at hst
        have hyes : za_ok T X i j (A j k) = true := by
          unfold za_ok za_nr
          simp only [Bool.not_eq_true] at b3
          rw [b1.2, b3]
          simp [b1.1, hem, b2]
        obtain ⟨g', q1, q2, q3⟩ := ev_hear (dp := dp) (Dm := (g, h)) (off := off) (j := j) hel (by omega) hmj hO (fun ho hp => by
          obtain ⟨-, -, f, mk, r1, r2, r3, r4⟩ := hF _ ho
          rw [r1, zc_mk r3] at hp
          rw [r1, zc_fk (by omega) r3]
          rcases r4 with r4 | r4
          · rw [r4.2.1] at hp
            have := za_pc_pos (s := zc_m (A j k)) (j := j) (by omega)
            rw [hp] at this
            exact absurd this (by decide)
          · omega)
        rw [hch.1, zm_v1 b1.1, q3] at hst
        simp only [Option.bind_some, cond_true] at hst
        exact ⟨g', _, _, _, _, q1, by rw [za_h1_he hyes]; exact q2, hst⟩
    · rw [if_neg b2, if_pos rfl] at hst
      have hno : za_ok T X i j (A j k) = false := by unfold za_ok za_nr; simp [b2]
      by_cases b3 : (zc_m (A j k) ||| 2 ^ j).testBit i = true
      · rw [if_pos b3, if_neg (by decide)] at hst
        exact ⟨g, _, _, _, _, fun _ _ _ => rfl, by rw [za_h1_no hno]; exact hO, hst⟩
      · rw [if_neg b3, if_pos (show (0 : Int32) = nI 0 from rfl)] at hst
        exact ⟨g, _, _, _, _, fun _ _ _ => rfl, by rw [za_h1_no hno]; exact hO, hst⟩
  · rw [if_neg b1, if_pos rfl] at hst
    have hno : za_ok T X i j (A j k) = false := by
      unfold za_ok
      simp only [Bool.and_eq_true, decide_eq_true_eq, not_and, Bool.not_eq_true] at b1
      by_cases q : A j k = 0
      · simp [q]
      · simp [b1 q]
    exact ⟨g, _, _, _, _, fun _ _ _ => rfl, by rw [za_h1_no hno]; exact hO, hst⟩
theorem ev_gather_121 {dp : Nat} {Dm : zv_D} {T : zT} {X : zX} {A : zA} {i : Nat} (hT : zT_ok T) (hX : zX_ok T X) (hR : zM_R (Dm.1 121) T X A) (hK : zM_K Dm.1 T X) (hW : za_W T A) (hi : i < zT_n T) :
    ∃ g', (∀ x, x ≠ 129 → x ≠ 130 → g' x = Dm.1 x) ∧ zM_O g' (za_hd T X A i) ∧ zv_ev (dp + 3) 159 [.ref 116, .ref 121, .int (nI i)] zS0 Dm = zo_v (g', Dm.2) := by
  have h5 := hT.2.1
  have h4 := hT.2.2.1
  have c0 : Dm.1 121 0 = nI (zT_n T) := hR.1
  have c1 : Dm.1 121 1 = nI (zT_m T) := hR.2.1
  have c2 : Dm.1 121 2 = nI (zX_up X) := hR.2.2.1
  have hup : zX_up X < 16 := by
    have h1 := hX.2.2.2.2.1
    have : 2 ^ zT_m T ≤ 2 ^ 4 := Nat.pow_le_pow_right (by decide) h4
    omega
  -- the own ones
  obtain ⟨g1, ⟨f1, o1⟩, r1⟩ := zl_up (fun k (g' : Nat → Nat → Int32) => zv_m zt_X9_gather (zv_ev (dp + 2)) false 2 [some (.ref 116), some (.ref 121), some (.int (nI i)), some (.int (nI k)), none, none, none, none] [] zS0 (g', Dm.2)) 4 (fun k g' => (∀ x, x ≠ 129 → x ≠ 130 → g' x = Dm.1 x) ∧ ∀ e, e < k → g' 129 e = zm_v (za_o0 T X i e) (zc_f (za_o0 T X i e)) ∧ g' 130 e = nI (if za_o0 T X i e = 0 then 0 else zc_m (za_o0 T X i e))) (by
    intro k g' hk ⟨hf, ho⟩
    have hst := zd_X9_gather_p121_2 (zv_ev (dp + 2)) g' Dm.2 (nI i) (nI k) none none none none
    have w1 : ∀ x, x ≠ 129 → x ≠ 130 → zv_w (zv_w g' 129 k (-9)) 130 k 0 x = Dm.1 x := fun x h1 h2 => (zw_cell _ _ _ h2).trans ((zw_cell _ _ _ h1).trans (hf x h1 h2))
    rw [if_neg (zi_ge 4 4 rfl hk (by decide)), zi_in hk (by decide), nI_clamp (by omega), nI_1, w1 121 (by decide) (by decide), c1, c2] at hst
    simp only [cond_true] at hst
    have none' : za_o0 T X i k = 0 → (∀ x, x ≠ 129 → x ≠ 130 → zv_w (zv_w g' 129 k (-9)) 130 k 0 x = Dm.1 x) ∧ ∀ e, e < k + 1 → zv_w (zv_w g' 129 k (-9)) 130 k 0 129 e = zm_v (za_o0 T X i e) (zc_f (za_o0 T X i e)) ∧ zv_w (zv_w g' 129 k (-9)) 130 k 0 130 e = nI (if za_o0 T X i e = 0 then 0 else zc_m (za_o0 T X i e)) := by
      intro hz
      refine ⟨w1, fun e he => ?_⟩
      by_cases hek : e = k
      · subst hek
        rw [zw_cell _ _ _ (by decide), zw_same, zw_same, zm_v0 hz, if_pos hz]
        exact ⟨rfl, rfl⟩
      · rw [zw_cell _ _ _ (by decide), zw_other _ _ _ hek, zw_other _ _ _ hek, zw_cell _ _ _ (by decide)]
        exact ho e (by omega)
    by_cases b1 : zT_m T ≤ k
    · rw [if_pos (nI_le b1 (by omega))] at hst
      refine ⟨_, none' ?_, hst⟩
      unfold za_o0
      rw [if_neg (fun z => by have := z.2; unfold za_ow za_at at this; simp only [Bool.and_eq_true, decide_eq_true_eq] at this; omega)]
    rw [if_neg (nI_ge (by omega) (by omega)), zi_has (dp := dp + 1) (zv_w (zv_w g' 129 k (-9)) 130 k 0, Dm.2) (by omega) (by omega)] at hst
    simp only [Option.bind_some] at hst
    by_cases b2 : (zX_up X).testBit k = true
    · rw [if_pos b2, if_neg (by decide), show (0 : Int32) = nI 0 from rfl, ev_mexitOf_121 (dp := dp + 1) (zv_w (zv_w g' 129 k (-9)) 130 k (nI 0), Dm.2) hk (by decide)] at hst
      simp only [Option.bind_some] at hst
      have hpl : zv_w (zv_w g' 129 k (-9)) 130 k (nI 0) 121 (55 + 4 * k + 0) = nI (zT_pl T k) := (congrFun (w1 121 (by decide) (by decide)) _).trans (hR.2.2.2.2.2.2.2.1 k (by omega)).1
      rw [hpl] at hst
      have p5 := hT.2.2.2.2.2.2.1 k
      by_cases b3 : zT_pl T k = i
      · -- by hand: from is none, so it is put
        have hh := zd_X9_hear (zv_ev (dp + 1)) (zv_w (zv_w g' 129 k (-9)) 130 k (nI 0)) Dm.2 (nI k) (nI i) (nI 0)
        rw [zi_in hk (by decide), nI_clamp (by omega)] at hh
        simp only [cond_true] at hh
        rw [if_pos (by rw [zw_cell _ _ _ (by decide), zw_same])] at hh
        have hh2 : zv_ev (dp + 2) 158 [.ref 116, .int (nI k), .int (nI i), .int (nI 0)] zS0 (zv_w (zv_w g' 129 k (-9)) 130 k (nI 0), Dm.2) = zo_v (zv_w (zv_w (zv_w (zv_w g' 129 k (-9)) 130 k (nI 0)) 129 k (nI i)) 130 k (nI 0), Dm.2) := zs_X9_hear hh
        rw [if_pos (by rw [b3]), hh2] at hst
        simp only [Option.bind_some] at hst
        have hz : za_o0 T X i k = zc_k k i 0 := by
          unfold za_o0
          rw [if_pos ⟨hk, by unfold za_ow za_at; simp only [Bool.and_eq_true, decide_eq_true_eq]; exact ⟨⟨by omega, b3⟩, b2⟩⟩]
        refine ⟨_, ⟨fun x h1 h2 => (zw_cell _ _ _ h2).trans ((zw_cell _ _ _ h1).trans (w1 x h1 h2)), fun e he => ?_⟩, hst⟩
        by_cases hek : e = k
        · subst hek
          have := zc_k_ge e i 0
          rw [zw_cell _ _ _ (by decide), zw_same, zw_same, hz, zm_v1 (by omega), if_neg (by omega), zc_fk (by omega) (by decide), zc_mk (by decide)]
          exact ⟨rfl, rfl⟩
        · simp only [zw_at, hek, and_false, if_false]
          exact ho e (by omega)
      · rw [if_neg (fun z => b3 ((nI_eq (by omega) (by omega)).mp z))] at hst
        refine ⟨_, none' ?_, hst⟩
        unfold za_o0
        rw [if_neg (fun z => by have := z.2; unfold za_ow za_at at this; simp only [Bool.and_eq_true, decide_eq_true_eq] at this; exact b3 this.1.2)]
    · rw [if_neg b2, if_pos rfl] at hst
      refine ⟨_, none' ?_, hst⟩
      unfold za_o0
      rw [if_neg (fun z => by have := z.2; unfold za_ow at this; simp only [Bool.and_eq_true] at this; exact b2 this.2)]) Dm.1 ⟨fun _ _ _ => rfl, fun e he => absurd he (Nat.not_lt_zero e)⟩
  -- the others'
  obtain ⟨⟨g2, v4, v5, v6, v7⟩, ⟨f2, o2⟩, r2⟩ := zl_up (σ := (Nat → Nat → Int32) × Option Value × Option Value × Option Value × Option Value) (fun j s => zv_m zt_X9_gather (zv_ev (dp + 2)) false 64 [some (.ref 116), some (.ref 121), some (.int (nI i)), some (.int (nI (2 * j))), s.2.1, s.2.2.1, s.2.2.2.1, s.2.2.2.2] [] zS0 (s.1, Dm.2)) (zT_n T) (fun j s => (∀ x, x ≠ 129 → x ≠ 130 → s.1 x = Dm.1 x) ∧ zM_O s.1 (za_of T X A i j)) (by
    rintro j ⟨g', u4, u5, u6, u7⟩ hj ⟨hf, ho⟩
    dsimp only at hf ho
    have hR' : zM_R (g' 121) T X A := by rw [hf 121 (by decide) (by decide)]; exact hR
    have hK' : zM_K g' T X := fun a b ha hb => (congrFun (hf 128 (by decide) (by decide)) _).trans (hK a b ha hb)
    have F0 := za_Fn (X := X) hT hW hi j (by omega)
    obtain ⟨ga, a4, a5, a6, a7, q1, q2, q3⟩ := zx_gather_121 (dp := dp) (h := Dm.2) hT hR' hK' hW hi hj (by decide : 0 < 2) ho F0 (by omega) u4 u5 u6 u7
    have hR2 : zM_R (ga 121) T X A := by rw [q1 121 (by decide) (by decide)]; exact hR'
    have hK2 : zM_K ga T X := fun a b ha hb => (congrFun (q1 128 (by decide) (by decide)) _).trans (hK' a b ha hb)
    have F1 : za_F T i (za_h1 T X i j (A j 0) (za_of T X A i j)) (j + 1) := za_F1 hT hj (hW.1 j 0) F0 (by omega)
    obtain ⟨gb, b4, b5, b6, b7, q4, q5, q6⟩ := zx_gather_121 (dp := dp) (h := Dm.2) hT hR2 hK2 hW hi hj (by decide : 1 < 2) q2 F1 (Nat.le_refl _) a4 a5 a6 a7
    exact ⟨(gb, b4, b5, b6, b7), ⟨fun x h1 h2 => (q4 x h1 h2).trans ((q1 x h1 h2).trans (hf x h1 h2)), q5⟩, q3.trans q6⟩) (g1, none, none, none, none) ⟨f1, o1⟩
  dsimp only at f2 o2 r1 r2
  refine ⟨g2, f2, o2, zs_X9_gather_p121 ((zd_X9_gather_p121 _ Dm.1 Dm.2 _).trans (r1.trans ?_))⟩
  rw [zd_X9_gather_p121_2, if_pos (zi_le 4 4 rfl (by decide) (by decide))]
  refine r2.trans ?_
  rw [zd_X9_gather_p121_64, f2 121 (by decide) (by decide), c0, show (2 : Int32) * nI (zT_n T) = nI (2 * zT_n T) from pk_mul 2 _, if_pos (nI_le (Nat.le_refl _) (by omega))]
