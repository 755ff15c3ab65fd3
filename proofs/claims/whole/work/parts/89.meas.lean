theorem zd_J_fill_k (ca : zv_Ca) (g : Nat → Nat → Int32) (h : Nat → Nat → Int64) (a2 : Int32) : zv_m zt_J_fill ca false 0 [some (.ref 23), some (.int a2), none, none] [] zS1 (g, h) = zv_m zt_J_fill ca false 5 [some (.ref 23), some (.int a2), some (.int 0), some (.int (Int32.ofNat 80))] [] zS1 (g, h) := (zv_mn _ _ _ [5] 7 _ _ _ _ _).trans rfl
theorem zd_J_fill_k_5 (ca : zv_Ca) (g : Nat → Nat → Int32) (h : Nat → Nat → Int64) (x1 : Int32) (x2 : Int32) (x3 : Int32) : zv_m zt_J_fill ca false 5 [some (.ref 23), some (.int x1), some (.int x2), some (.int x3)] [] zS1 (g, h) = (if x3 ≤ x2 then zv_rv zS1 (g, h) else (bif zv_in x2 80 then zv_m zt_J_fill ca false 5 [some (.ref 23), some (.int x1), some (.int (x2 + 1)), some (.int x3)] [] zS1 ((zv_w g 23 x2.toNatClampNeg x1), h) else none)) := (zv_mn _ _ _ [5] 11 _ _ _ _ _).trans rfl
theorem zd_X6_forgetPicks_k (ca : zv_Ca) (g : Nat → Nat → Int32) (h : Nat → Nat → Int64) : zv_m zt_X6_forgetPicks ca false 0 [some (.ref 16)] [] zS1 (g, h) = ((ca 1 [.ref 23, .int (-2)] zS1 (g, h)).bind fun p1 => zv_rv zS1 p1.2) := (zv_mn _ _ _ [] 6 _ _ _ _ _).trans rfl
theorem zd_X6_distance_k (ca : zv_Ca) (g : Nat → Nat → Int32) (h : Nat → Nat → Int64) (a1 : Int32) (a2 : Int32) : zv_m zt_X6_distance ca false 0 [some (.ref 16), some (.int a1), some (.int a2), none] [] zS1 (g, h) = (if ((a1 * 5) + a2) < 0 then zv_ri 1000 zS1 (g, h) else (if (25 : Int32) ≤ ((a1 * 5) + a2) then zv_ri 1000 zS1 (g, h) else (bif zv_in ((a1 * 5) + a2) 25 then zv_ri (g 22 ((a1 * 5) + a2).toNatClampNeg) zS1 (g, h) else none))) := (zv_mn _ _ _ [] 18 _ _ _ _ _).trans rfl
theorem zd_X6_findNear_k (ca : zv_Ca) (g : Nat → Nat → Int32) (h : Nat → Nat → Int64) : zv_m zt_X6_findNear ca false 0 [some (.ref 16), none, none] [] zS1 (g, h) = zv_m zt_X6_findNear ca false 2 [some (.ref 16), some (.int 0), none] [] zS1 (g, h) := (zv_mn _ _ _ [2, 16] 4 _ _ _ _ _).trans rfl
theorem zd_X6_findNear_k_2 (ca : zv_Ca) (g : Nat → Nat → Int32) (h : Nat → Nat → Int64) (x1 : Int32) (u2 : Option Value) : zv_m zt_X6_findNear ca false 2 [some (.ref 16), some (.int x1), u2] [] zS1 (g, h) = (if (5 : Int32) ≤ x1 then zv_rv zS1 (g, h) else (bif zv_in x1 5 then zv_m zt_X6_findNear ca false 16 [some (.ref 16), some (.int x1), some (.int 0)] [] zS1 ((zv_w g 21 x1.toNatClampNeg 0), h) else none)) := (zv_mn _ _ _ [2, 16] 12 _ _ _ _ _).trans rfl
theorem zd_X6_findNear_k_16 (ca : zv_Ca) (g : Nat → Nat → Int32) (h : Nat → Nat → Int64) (x1 : Int32) (x2 : Int32) : zv_m zt_X6_findNear ca false 16 [some (.ref 16), some (.int x1), some (.int x2)] [] zS1 (g, h) = (if (g 9 1) ≤ x2 then zv_m zt_X6_findNear ca false 2 [some (.ref 16), some (.int (x1 + 1)), some (.int x2)] [] zS1 (g, h) else (if (4 : Int32) ≤ x2 then zv_m zt_X6_findNear ca false 2 [some (.ref 16), some (.int (x1 + 1)), some (.int x2)] [] zS1 (g, h) else (bif zv_in x1 5 then (bif zv_in x2 4 then ((ca 55 [.ref 16, .int x1, .int (g 12 x2.toNatClampNeg)] zS1 (g, h)).bind fun p3 => (if (1000 : Int32) ≤ p3.1.1 then (bif zv_in x1 5 then zv_m zt_X6_findNear ca false 16 [some (.ref 16), some (.int x1), some (.int (x2 + 1))] [] zS1 ((zv_w p3.2.1 21 x1.toNatClampNeg ((g 21 x1.toNatClampNeg) ||| 0)), p3.2.2) else none) else (bif zv_in x1 5 then zv_m zt_X6_findNear ca false 16 [some (.ref 16), some (.int x1), some (.int (x2 + 1))] [] zS1 ((zv_w p3.2.1 21 x1.toNatClampNeg ((g 21 x1.toNatClampNeg) ||| ((1 : Int32) <<< (x2 &&& 31)))), p3.2.2) else none))) else none) else none))) := (zv_mn _ _ _ [2, 16] 33 _ _ _ _ _).trans rfl
theorem zd_X6_measure_k (ca : zv_Ca) (g : Nat → Nat → Int32) (h : Nat → Nat → Int64) : zv_m zt_X6_measure ca false 0 [some (.ref 16), none, none, none, none, none, none] [] zS1 (g, h) = zv_m zt_X6_measure ca false 2 [some (.ref 16), some (.int 0), none, none, none, none, none] [] zS1 (g, h) := (zv_mn _ _ _ [2, 64, 71, 90] 4 _ _ _ _ _).trans rfl
theorem zd_X6_measure_k_2 (ca : zv_Ca) (g : Nat → Nat → Int32) (h : Nat → Nat → Int64) (x1 : Int32) (u2 : Option Value) (u3 : Option Value) (u4 : Option Value) (u5 : Option Value) (u6 : Option Value) : zv_m zt_X6_measure ca false 2 [some (.ref 16), some (.int x1), u2, u3, u4, u5, u6] [] zS1 (g, h) = (if (25 : Int32) ≤ x1 then zv_m zt_X6_measure ca false 64 [some (.ref 16), some (.int 0), u2, u3, u4, u5, u6] [] zS1 (g, h) else (bif zv_in x1 25 then (if (g 18 x1.toNatClampNeg) ≤ 0 then (if (x1 / 5) = (x1 - x1 / 5 * 5) then (bif zv_in x1 25 then zv_m zt_X6_measure ca false 2 [some (.ref 16), some (.int (x1 + 1)), some (.int 1000), u3, u4, u5, u6] [] zS1 ((zv_w g 22 x1.toNatClampNeg 0), h) else none) else (bif zv_in x1 25 then zv_m zt_X6_measure ca false 2 [some (.ref 16), some (.int (x1 + 1)), some (.int 1000), u3, u4, u5, u6] [] zS1 ((zv_w g 22 x1.toNatClampNeg 1000), h) else none)) else (bif zv_in x1 25 then (if (x1 / 5) = (x1 - x1 / 5 * 5) then (bif zv_in x1 25 then zv_m zt_X6_measure ca false 2 [some (.ref 16), some (.int (x1 + 1)), some (.int (g 18 x1.toNatClampNeg)), u3, u4, u5, u6] [] zS1 ((zv_w g 22 x1.toNatClampNeg 0), h) else none) else (bif zv_in x1 25 then zv_m zt_X6_measure ca false 2 [some (.ref 16), some (.int (x1 + 1)), some (.int (g 18 x1.toNatClampNeg)), u3, u4, u5, u6] [] zS1 ((zv_w g 22 x1.toNatClampNeg (g 18 x1.toNatClampNeg)), h) else none)) else none)) else none)) := (zv_mn _ _ _ [2, 64, 71, 90] 33 _ _ _ _ _).trans rfl
theorem zd_X6_measure_k_64 (ca : zv_Ca) (g : Nat → Nat → Int32) (h : Nat → Nat → Int64) (x1 : Int32) (u2 : Option Value) (u3 : Option Value) (u4 : Option Value) (u5 : Option Value) (u6 : Option Value) : zv_m zt_X6_measure ca false 64 [some (.ref 16), some (.int x1), u2, u3, u4, u5, u6] [] zS1 (g, h) = (if (5 : Int32) ≤ x1 then ((ca 54 [.ref 16] zS1 (g, h)).bind fun p2 => zv_rv zS1 p2.2) else zv_m zt_X6_measure ca false 71 [some (.ref 16), some (.int x1), some (.int 0), u3, u4, u5, u6] [] zS1 (g, h)) := (zv_mn _ _ _ [2, 64, 71, 90] 7 _ _ _ _ _).trans rfl
theorem zd_X6_measure_k_71 (ca : zv_Ca) (g : Nat → Nat → Int32) (h : Nat → Nat → Int64) (x1 : Int32) (x2 : Int32) (u3 : Option Value) (u4 : Option Value) (u5 : Option Value) (u6 : Option Value) : zv_m zt_X6_measure ca false 71 [some (.ref 16), some (.int x1), some (.int x2), u3, u4, u5, u6] [] zS1 (g, h) = (if (5 : Int32) ≤ x2 then zv_m zt_X6_measure ca false 64 [some (.ref 16), some (.int (x1 + 1)), some (.int x2), u3, u4, u5, u6] [] zS1 (g, h) else (bif zv_in ((x2 * 5) + x1) 25 then zv_m zt_X6_measure ca false 90 [some (.ref 16), some (.int x1), some (.int x2), some (.int (g 22 ((x2 * 5) + x1).toNatClampNeg)), some (.int 0), u5, u6] [] zS1 (g, h) else none)) := (zv_mn _ _ _ [2, 64, 71, 90] 16 _ _ _ _ _).trans rfl
theorem zd_X6_measure_k_90 (ca : zv_Ca) (g : Nat → Nat → Int32) (h : Nat → Nat → Int64) (x1 : Int32) (x2 : Int32) (x3 : Int32) (x4 : Int32) (u5 : Option Value) (u6 : Option Value) : zv_m zt_X6_measure ca false 90 [some (.ref 16), some (.int x1), some (.int x2), some (.int x3), some (.int x4), u5, u6] [] zS1 (g, h) = (if (5 : Int32) ≤ x4 then zv_m zt_X6_measure ca false 71 [some (.ref 16), some (.int x1), some (.int (x2 + 1)), some (.int x3), some (.int x4), u5, u6] [] zS1 (g, h) else (bif zv_in ((x1 * 5) + x4) 25 then (bif zv_in ((x2 * 5) + x4) 25 then (bif zv_in ((x2 * 5) + x4) 25 then zv_m zt_X6_measure ca false 90 [some (.ref 16), some (.int x1), some (.int x2), some (.int x3), some (.int (x4 + 1)), some (.int (x3 + (g 22 ((x1 * 5) + x4).toNatClampNeg))), some (.int ((x2 * 5) + x4))] [] zS1 ((zv_w g 22 ((x2 * 5) + x4).toNatClampNeg (if (x3 + (g 22 ((x1 * 5) + x4).toNatClampNeg)) < (g 22 ((x2 * 5) + x4).toNatClampNeg) then (x3 + (g 22 ((x1 * 5) + x4).toNatClampNeg)) else (g 22 ((x2 * 5) + x4).toNatClampNeg))), h) else none) else none) else none)) := (zv_mn _ _ _ [2, 64, 71, 90] 34 _ _ _ _ _).trans rfl
theorem zs_J_fill_k {d : Nat} {g : Nat → Nat → Int32} {h : Nat → Nat → Int64} {a2 : Int32} {r : zv_R} {D : zv_D} (q : zv_m zt_J_fill (zv_ev d) false 0 [some (.ref 23), some (.int a2), none, none] [] zS1 (g, h) = some (r, zS1, D)) : zv_ev (d + 1) 1 [.ref 23, .int a2] zS1 (g, h) = some (r, D) := congrArg (Option.map fun o : zv_O => (o.1, o.2.2)) q
theorem zs_X6_forgetPicks_k {d : Nat} {g : Nat → Nat → Int32} {h : Nat → Nat → Int64} {r : zv_R} {D : zv_D} (q : zv_m zt_X6_forgetPicks (zv_ev d) false 0 [some (.ref 16)] [] zS1 (g, h) = some (r, zS1, D)) : zv_ev (d + 1) 52 [.ref 16] zS1 (g, h) = some (r, D) := congrArg (Option.map fun o : zv_O => (o.1, o.2.2)) q
theorem zs_X6_distance_k {d : Nat} {g : Nat → Nat → Int32} {h : Nat → Nat → Int64} {a1 : Int32} {a2 : Int32} {r : zv_R} {D : zv_D} (q : zv_m zt_X6_distance (zv_ev d) false 0 [some (.ref 16), some (.int a1), some (.int a2), none] [] zS1 (g, h) = some (r, zS1, D)) : zv_ev (d + 1) 55 [.ref 16, .int a1, .int a2] zS1 (g, h) = some (r, D) := congrArg (Option.map fun o : zv_O => (o.1, o.2.2)) q
theorem zs_X6_findNear_k {d : Nat} {g : Nat → Nat → Int32} {h : Nat → Nat → Int64} {r : zv_R} {D : zv_D} (q : zv_m zt_X6_findNear (zv_ev d) false 0 [some (.ref 16), none, none] [] zS1 (g, h) = some (r, zS1, D)) : zv_ev (d + 1) 54 [.ref 16] zS1 (g, h) = some (r, D) := congrArg (Option.map fun o : zv_O => (o.1, o.2.2)) q
theorem zs_X6_measure_k {d : Nat} {g : Nat → Nat → Int32} {h : Nat → Nat → Int64} {r : zv_R} {D : zv_D} (q : zv_m zt_X6_measure (zv_ev d) false 0 [some (.ref 16), none, none, none, none, none, none] [] zS1 (g, h) = some (r, zS1, D)) : zv_ev (d + 1) 53 [.ref 16] zS1 (g, h) = some (r, D) := congrArg (Option.map fun o : zv_O => (o.1, o.2.2)) q
theorem ev_fill_k {dp : Nat} (Dm : zv_D) (v : Int32) : ∃ g', (∀ x, x ≠ 23 → g' x = Dm.1 x) ∧ (∀ q, q < 80 → g' 23 q = v) ∧ zv_ev (dp + 1) 1 [.ref 23, .int v] zS1 Dm = zo_v (g', Dm.2) := by
  obtain ⟨g1, ⟨f1, i1⟩, r1⟩ := zl_up (fun k (s : Nat → Nat → Int32) => zv_m zt_J_fill (zv_ev dp) false 5 [some (.ref 23), some (.int v), some (.int (nI k)), some (.int (nI 80))] [] zS1 (s, Dm.2)) 80 (fun k s => (∀ x, x ≠ 23 → s x = Dm.1 x) ∧ ∀ q, q < k → s 23 q = v) (by
    intro k s hk ⟨hf, hi⟩
    have hst := zd_J_fill_k_5 (zv_ev dp) s Dm.2 v (nI k) (nI 80)
    rw [if_neg (nI_ge hk (by decide)), zi_in hk (by decide), nI_clamp (by omega), nI_1] at hst
    refine ⟨_, ⟨fun x hx => (zw_cell _ _ _ hx).trans (hf x hx), fun q hq => ?_⟩, hst⟩
    by_cases hqk : q = k
    · subst hqk; exact zw_same _ _ _ _
    · rw [zw_other _ _ _ hqk]; exact hi q (by omega)) Dm.1 ⟨fun _ _ => rfl, fun q hq => absurd hq (Nat.not_lt_zero q)⟩
  refine ⟨g1, f1, i1, zs_J_fill_k ((zd_J_fill_k _ Dm.1 Dm.2 _).trans (r1.trans ?_))⟩
  rw [zd_J_fill_k_5, if_pos (nI_le (Nat.le_refl _) (by decide))]
theorem ev_forgetPicks_k {dp : Nat} (Dm : zv_D) : ∃ g', (∀ x, x ≠ 23 → g' x = Dm.1 x) ∧ (∀ k, k < 80 → g' 23 k = -2) ∧ zv_ev (dp + 2) 52 [.ref 16] zS1 Dm = zo_v (g', Dm.2) := by
  obtain ⟨g', f, i, r⟩ := ev_fill_k (dp := dp) (Dm.1, Dm.2) (-2)
  refine ⟨g', f, i, zs_X6_forgetPicks_k ((zd_X6_forgetPicks_k _ Dm.1 Dm.2).trans ?_)⟩
  rw [r]
  rfl
theorem ev_distance_k {dp : Nat} (Dm : zv_D) {i j : Nat} (hi : i < 5) (hj : j < 5) : zv_ev (dp + 1) 55 [.ref 16, .int (nI i), .int (nI j)] zS1 Dm = zo_i (Dm.1 22 (5 * i + j)) Dm := by
  refine zs_X6_distance_k ((zd_X6_distance_k _ Dm.1 Dm.2 _ _).trans ?_)
  rw [zx_pair hi hj, if_neg (nI_pos (by omega)), if_neg (zi_ge 25 25 rfl (by omega) (by decide)), zi_in (by omega) (by decide), nI_clamp (by omega)]
  rfl
theorem ev_findNear_k {dp : Nat} {Dm : zv_D} {T : zT} {X : zX} (hT : zT_ok T) (hm : Dm.1 9 1 = nI (zT_m T)) (hpl : ∀ e, e < 4 → Dm.1 12 e = nI (zT_pl T e)) (hd : ∀ i j, i < 5 → j < 5 → Dm.1 22 (5 * i + j) = nI (za_di (zX_co X) i j)) (hX : ∀ k, zX_co X k ≤ 9) :
    ∃ g', (∀ x, x ≠ 21 → g' x = Dm.1 x) ∧ (∀ i, i < 5 → g' 21 i = nI (zf_set (za_nr T X i))) ∧ zv_ev (dp + 2) 54 [.ref 16] zS1 Dm = zo_v (g', Dm.2) := by
  have h4 := hT.2.2.1
  obtain ⟨⟨g1, u1⟩, ⟨f1, i1⟩, r1⟩ := zl_up (σ := (Nat → Nat → Int32) × Option Value) (fun k s => zv_m zt_X6_findNear (zv_ev (dp + 1)) false 2 [some (.ref 16), some (.int (nI k)), s.2] [] zS1 (s.1, Dm.2)) 5 (fun k s => (∀ x, x ≠ 21 → s.1 x = Dm.1 x) ∧ ∀ i, i < k → s.1 21 i = nI (zf_set (za_nr T X i))) (by
    rintro i ⟨s, u⟩ hi ⟨hf, hn⟩
    dsimp only at hf hn
    have hst := zd_X6_findNear_k_2 (zv_ev (dp + 1)) s Dm.2 (nI i) u
    rw [if_neg (zi_ge 5 5 rfl hi (by decide)), zi_in hi (by decide), nI_clamp (by omega), cond_true] at hst
    obtain ⟨g2, ⟨f2, o2, v2⟩, r2⟩ := zl_up (fun e (t : Nat → Nat → Int32) => zv_m zt_X6_findNear (zv_ev (dp + 1)) false 16 [some (.ref 16), some (.int (nI i)), some (.int (nI e))] [] zS1 (t, Dm.2)) (zT_m T) (fun e t => (∀ x, x ≠ 21 → t x = Dm.1 x) ∧ (∀ q, q ≠ i → t 21 q = s 21 q) ∧ t 21 i = nI (zf_set fun e' => decide (e' < e) && za_nr T X i e')) (by
      intro e t he ⟨tf, to, tv⟩
      have e4 : e < 4 := by omega
      have hst := zd_X6_findNear_k_16 (zv_ev (dp + 1)) t Dm.2 (nI i) (nI e)
      rw [tf 9 (by decide), hm, if_neg (nI_ge he (by omega)), if_neg (zi_ge 4 4 rfl e4 (by decide)), zi_in hi (by decide), zi_in e4 (by decide), nI_clamp (by omega), nI_clamp (by omega), tf 12 (by decide), hpl e e4, ev_distance_k (dp := dp) (t, Dm.2) hi (hT.2.2.2.2.2.2.1 e), nI_1, zi_sh (by omega), tv] at hst
      simp only [Option.bind_some, cond_true] at hst
      rw [tf 22 (by decide), hd i _ hi (hT.2.2.2.2.2.2.1 e)] at hst
      have l1 := zf_set_lt (fun e' => decide (e' < e) && za_nr T X i e')
      have l2 := z2k e4
      have hfin := za_di_fin hX i (zT_pl T e)
      have go : ∀ v : Int32, v = nI (zf_set fun e' => decide (e' < e + 1) && za_nr T X i e') → (∀ x, x ≠ 21 → zv_w t 21 i v x = Dm.1 x) ∧ (∀ q, q ≠ i → zv_w t 21 i v 21 q = s 21 q) ∧ zv_w t 21 i v 21 i = nI (zf_set fun e' => decide (e' < e + 1) && za_nr T X i e') := fun v hv => ⟨fun x hx => (zw_cell _ _ _ hx).trans (tf x hx), fun q hq => by rw [zw_other _ _ _ hq]; exact to q hq, by rw [zw_same, hv]⟩
      by_cases hb : za_di (zX_co X) i (zT_pl T e) < 1000
      · rw [if_neg (zi_ge 1000 1000 rfl hb (by decide))] at hst
        refine ⟨_, go _ ?_, hst⟩
        rw [zi_or (by omega) (by omega), zf_pre_s (p := za_nr T X i) e4, if_pos (by unfold za_nr; simp [he, hb])]
      · rw [if_pos (zi_le 1000 1000 rfl (by omega) (by omega))] at hst
        refine ⟨_, go _ ?_, hst⟩
        rw [zf_pre_s (p := za_nr T X i) e4, if_neg (by unfold za_nr; simp [hb]), Int32.or_zero, Nat.or_zero]) (zv_w s 21 i 0) ⟨fun x hx => (zw_cell _ _ _ hx).trans (hf x hx), fun q hq => zw_other _ _ _ hq, by rw [zw_same, zf_pre_0 (p := za_nr T X i)]; rfl⟩
    have hst2 := zd_X6_findNear_k_16 (zv_ev (dp + 1)) g2 Dm.2 (nI i) (nI (zT_m T))
    rw [f2 9 (by decide), hm, if_pos (nI_le (Nat.le_refl _) (by omega)), nI_1] at hst2
    refine ⟨(g2, _), ⟨f2, fun q hq => ?_⟩, hst.trans (r2.trans hst2)⟩
    dsimp only
    by_cases hqi : q = i
    · subst hqi
      rw [v2]
      congr 2
      funext e'
      unfold za_nr
      by_cases h : e' < zT_m T
      · simp [h]
      · simp [h]
    · rw [o2 q hqi]; exact hn q (by omega)) (Dm.1, none) ⟨fun _ _ => rfl, fun q hq => absurd hq (Nat.not_lt_zero q)⟩
  dsimp only at f1 i1 r1
  refine ⟨g1, f1, i1, zs_X6_findNear_k ((zd_X6_findNear_k _ Dm.1 Dm.2).trans (r1.trans ?_))⟩
  rw [zd_X6_findNear_k_2, if_pos (zi_le 5 5 rfl (by decide) (by decide))]
theorem ev_measure_k {dp : Nat} {Dm : zv_D} {T : zT} {X : zX} (hT : zT_ok T) (hm : Dm.1 9 1 = nI (zT_m T)) (hpl : ∀ e, e < 4 → Dm.1 12 e = nI (zT_pl T e)) (hco : ∀ k, k < 25 → Dm.1 18 k = nI (zX_co X k)) (hX : ∀ k, zX_co X k ≤ 9) :
    ∃ g', (∀ x, x ≠ 21 → x ≠ 22 → g' x = Dm.1 x) ∧ (∀ i j, i < 5 → j < 5 → g' 22 (5 * i + j) = nI (za_di (zX_co X) i j)) ∧ (∀ i, i < 5 → g' 21 i = nI (zf_set (za_nr T X i))) ∧ zv_ev (dp + 3) 53 [.ref 16] zS1 Dm = zo_v (g', Dm.2) := by
  have dle : ∀ s i j, za_d (zX_co X) s i j ≤ 1000 := za_d_le hX
  -- the links
  obtain ⟨⟨g1, u1⟩, ⟨f1, i1⟩, r1⟩ := zl_up (σ := (Nat → Nat → Int32) × Option Value) (fun k s => zv_m zt_X6_measure (zv_ev (dp + 2)) false 2 [some (.ref 16), some (.int (nI k)), s.2, none, none, none, none] [] zS1 (s.1, Dm.2)) 25 (fun k s => (∀ x, x ≠ 22 → s.1 x = Dm.1 x) ∧ ∀ i j, i < 5 → j < 5 → 5 * i + j < k → s.1 22 (5 * i + j) = nI (za_d (zX_co X) 0 i j)) (by
    rintro k ⟨s, u⟩ hk ⟨hf, hi⟩
    dsimp only at hf hi
    have hst := zd_X6_measure_k_2 (zv_ev (dp + 2)) s Dm.2 (nI k) u none none none none
    have hd : nI k / 5 = nI (k / 5) := pk_div (d := 5) (by omega) (by decide) (by decide)
    have hr : nI k - nI (k / 5) * 5 = nI (k % 5) := by rw [← hd]; exact pk_rem (d := 5) (by omega) (by decide) (by decide)
    have hc := hX k
    rw [if_neg (zi_ge 25 25 rfl hk (by decide)), hd, hr, zi_in hk (by decide), nI_clamp (by omega), nI_1, hf 18 (by decide), hco k hk] at hst
    simp only [cond_true] at hst
    have go : ∀ (v : Int32), v = nI (if k / 5 = k % 5 then 0 else if 0 < zX_co X k then zX_co X k else 1000) → (∀ x, x ≠ 22 → zv_w s 22 k v x = Dm.1 x) ∧ ∀ i j, i < 5 → j < 5 → 5 * i + j < k + 1 → zv_w s 22 k v 22 (5 * i + j) = nI (za_d (zX_co X) 0 i j) := by
      intro v hv
      refine ⟨fun x hx => (zw_cell _ _ _ hx).trans (hf x hx), fun i j hi5 hj5 hq => ?_⟩
      by_cases hqk : 5 * i + j = k
      · rw [hqk, zw_same, hv, za_d_0, hqk]
        by_cases hij : i = j
        · rw [if_pos (by omega), if_pos hij]
        · rw [if_neg (by omega), if_neg hij]
      · rw [zw_other _ _ _ hqk]; exact hi i j hi5 hj5 (by omega)
    by_cases hz : zX_co X k = 0
    · rw [if_pos ((zi_le0 (by omega)).mpr hz)] at hst
      by_cases hij : k / 5 = k % 5
      · rw [if_pos (by rw [hij])] at hst
        exact ⟨(_, _), go _ (by rw [if_pos hij]; rfl), hst⟩
      · rw [if_neg (fun z => hij ((nI_eq (by omega) (by omega)).mp z))] at hst
        exact ⟨(_, _), go _ (by rw [if_neg hij, if_neg (by omega)]; rfl), hst⟩
    · rw [if_neg (fun z => hz ((zi_le0 (by omega)).mp z))] at hst
      by_cases hij : k / 5 = k % 5
      · rw [if_pos (by rw [hij])] at hst
        exact ⟨(_, _), go _ (by rw [if_pos hij]; rfl), hst⟩
      · rw [if_neg (fun z => hij ((nI_eq (by omega) (by omega)).mp z))] at hst
        exact ⟨(_, _), go _ (by rw [if_neg hij, if_pos (by omega)]), hst⟩) (Dm.1, none) ⟨fun _ _ => rfl, fun i j _ _ hq => absurd hq (Nat.not_lt_zero _)⟩
  dsimp only at f1 i1 r1
  -- over each router
  obtain ⟨⟨g2, w2, w3, w4, w5, w6⟩, ⟨f2, i2⟩, r2⟩ := zl_up (σ := (Nat → Nat → Int32) × Option Value × Option Value × Option Value × Option Value × Option Value) (fun o s => zv_m zt_X6_measure (zv_ev (dp + 2)) false 64 [some (.ref 16), some (.int (nI o)), s.2.1, s.2.2.1, s.2.2.2.1, s.2.2.2.2.1, s.2.2.2.2.2] [] zS1 (s.1, Dm.2)) 5 (fun o s => (∀ x, x ≠ 22 → s.1 x = Dm.1 x) ∧ ∀ i j, i < 5 → j < 5 → s.1 22 (5 * i + j) = nI (za_d (zX_co X) o i j)) (by
    rintro o ⟨s, v2, v3, v4, v5, v6⟩ ho ⟨hf, hi⟩
    dsimp only at hf hi
    have hst := zd_X6_measure_k_64 (zv_ev (dp + 2)) s Dm.2 (nI o) v2 v3 v4 v5 v6
    rw [if_neg (zi_ge 5 5 rfl ho (by decide))] at hst
    obtain ⟨⟨g3, y3, y4, y5, y6⟩, ⟨f3, i3⟩, r3⟩ := zl_up (σ := (Nat → Nat → Int32) × Option Value × Option Value × Option Value × Option Value) (fun i t => zv_m zt_X6_measure (zv_ev (dp + 2)) false 71 [some (.ref 16), some (.int (nI o)), some (.int (nI i)), t.2.1, t.2.2.1, t.2.2.2.1, t.2.2.2.2] [] zS1 (t.1, Dm.2)) 5 (fun i t => (∀ x, x ≠ 22 → t.1 x = Dm.1 x) ∧ ∀ a b, a < 5 → b < 5 → t.1 22 (5 * a + b) = nI (za_d (zX_co X) (if a < i then o + 1 else o) a b)) (by
      rintro i ⟨t, z3, z4, z5, z6⟩ hi' ⟨tf, ti⟩
      dsimp only at tf ti
      have hst := zd_X6_measure_k_71 (zv_ev (dp + 2)) t Dm.2 (nI o) (nI i) z3 z4 z5 z6
      have eo : t 22 (5 * i + o) = nI (za_d (zX_co X) o i o) := by rw [ti i o hi' ho, if_neg (Nat.lt_irrefl i)]
      rw [if_neg (zi_ge 5 5 rfl hi' (by decide)), zx_pair hi' ho, zi_in (n := 25) (by omega) (by decide), nI_clamp (by omega), eo, cond_true] at hst
      obtain ⟨⟨g4, x5, x6⟩, ⟨f4, i4⟩, r4⟩ := zl_up (σ := (Nat → Nat → Int32) × Option Value × Option Value) (fun j p => zv_m zt_X6_measure (zv_ev (dp + 2)) false 90 [some (.ref 16), some (.int (nI o)), some (.int (nI i)), some (.int (nI (za_d (zX_co X) o i o))), some (.int (nI j)), p.2.1, p.2.2] [] zS1 (p.1, Dm.2)) 5 (fun j p => (∀ x, x ≠ 22 → p.1 x = Dm.1 x) ∧ ∀ a b, a < 5 → b < 5 → p.1 22 (5 * a + b) = nI (za_d (zX_co X) (if a < i ∨ (a = i ∧ b < j) then o + 1 else o) a b)) (by
        rintro j ⟨p, q5, q6⟩ hj ⟨pf, pi⟩
        dsimp only at pf pi
        have hst := zd_X6_measure_k_90 (zv_ev (dp + 2)) p Dm.2 (nI o) (nI i) (nI (za_d (zX_co X) o i o)) (nI j) q5 q6
        have e1 : p 22 (5 * o + j) = nI (za_d (zX_co X) o o j) := by
          rw [pi o j ho hj]
          by_cases hc : o < i ∨ (o = i ∧ j < j)
          · rw [if_pos hc, za_d_row]
          · rw [if_neg hc]
        have e2 : p 22 (5 * i + j) = nI (za_d (zX_co X) o i j) := by
          rw [pi i j hi' hj, if_neg (by omega)]
        have l1 := dle o i o
        have l2 := dle o o j
        have l3 := dle o i j
        rw [if_neg (zi_ge 5 5 rfl hj (by decide)), zx_pair ho hj, zx_pair hi' hj, zi_in (n := 25) (by omega) (by decide), zi_in (n := 25) (by omega) (by decide), nI_clamp (by omega), nI_clamp (by omega), e1, e2, nI_add, zi_min (by omega) (by omega), nI_1] at hst
        simp only [cond_true] at hst
        refine ⟨(zv_w p 22 (5 * i + j) (nI (min (za_d (zX_co X) o i j) (za_d (zX_co X) o i o + za_d (zX_co X) o o j))), _, _), ⟨fun x hx => (zw_cell _ _ _ hx).trans (pf x hx), fun a b ha hb => ?_⟩, hst⟩
        dsimp only
        by_cases hab : 5 * a + b = 5 * i + j
        · have ea : a = i := by omega
          have eb : b = j := by omega
          subst ea; subst eb
          rw [zw_same, if_pos (by omega)]
          rfl
        · rw [zw_other _ _ _ hab, pi a b ha hb]
          by_cases hc : a < i ∨ (a = i ∧ b < j)
          · rw [if_pos hc, if_pos (by omega)]
          · rw [if_neg hc, if_neg (by omega)]) (t, z5, z6) ⟨tf, fun a b ha hb => by
            dsimp only
            rw [ti a b ha hb]
            by_cases hc : a < i
            · rw [if_pos hc, if_pos (Or.inl hc)]
            · rw [if_neg hc, if_neg (by omega)]⟩
      dsimp only at f4 i4 r4
      have hst2 := zd_X6_measure_k_90 (zv_ev (dp + 2)) g4 Dm.2 (nI o) (nI i) (nI (za_d (zX_co X) o i o)) (nI 5) x5 x6
      rw [if_pos (zi_le 5 5 rfl (by decide) (by decide)), nI_1] at hst2
      refine ⟨(g4, _, _, _, _), ⟨f4, fun a b ha hb => ?_⟩, hst.trans (r4.trans hst2)⟩
      dsimp only
      rw [i4 a b ha hb]
      by_cases hc : a < i + 1
      · rw [if_pos hc, if_pos (by omega)]
      · rw [if_neg hc, if_neg (by omega)]) (s, v3, v4, v5, v6) ⟨hf, fun a b ha hb => by
        dsimp only
        rw [hi a b ha hb, if_neg (Nat.not_lt_zero a)]⟩
    dsimp only at f3 i3 r3
    have hst2 := zd_X6_measure_k_71 (zv_ev (dp + 2)) g3 Dm.2 (nI o) (nI 5) y3 y4 y5 y6
    rw [if_pos (zi_le 5 5 rfl (by decide) (by decide)), nI_1] at hst2
    refine ⟨(g3, _, _, _, _, _), ⟨f3, fun i j hi5 hj5 => ?_⟩, hst.trans (r3.trans hst2)⟩
    dsimp only
    rw [i3 i j hi5 hj5, if_pos hi5]) (g1, u1, none, none, none, none) ⟨f1, fun i j hi5 hj5 => i1 i j hi5 hj5 (by omega)⟩
  dsimp only at f2 i2 r2
  obtain ⟨g5, f5, i5, r5⟩ := ev_findNear_k (dp := dp) (Dm := (g2, Dm.2)) (T := T) (X := X) hT (by dsimp only; rw [f2 9 (by decide)]; exact hm) (fun e he => by dsimp only; rw [f2 12 (by decide)]; exact hpl e he) i2 hX
  dsimp only at f5 i5 r5
  refine ⟨g5, fun x h1 h2 => (f5 x h1).trans (f2 x h2), fun i j hi hj => by rw [f5 22 (by decide)]; exact i2 i j hi hj, i5, zs_X6_measure_k ((zd_X6_measure_k _ Dm.1 Dm.2).trans (r1.trans ?_))⟩
  rw [zd_X6_measure_k_2, if_pos (zi_le 25 25 rfl (by decide) (by decide))]
  refine r2.trans ?_
  rw [zd_X6_measure_k_64, if_pos (zi_le 5 5 rfl (by decide) (by decide)), r5]
  rfl
theorem zd_J_fill_t (ca : zv_Ca) (g : Nat → Nat → Int32) (h : Nat → Nat → Int64) (a2 : Int32) : zv_m zt_J_fill ca false 0 [some (.ref 34), some (.int a2), none, none] [] zS2 (g, h) = zv_m zt_J_fill ca false 5 [some (.ref 34), some (.int a2), some (.int 0), some (.int (Int32.ofNat 80))] [] zS2 (g, h) := (zv_mn _ _ _ [5] 7 _ _ _ _ _).trans rfl
theorem zd_J_fill_t_5 (ca : zv_Ca) (g : Nat → Nat → Int32) (h : Nat → Nat → Int64) (x1 : Int32) (x2 : Int32) (x3 : Int32) : zv_m zt_J_fill ca false 5 [some (.ref 34), some (.int x1), some (.int x2), some (.int x3)] [] zS2 (g, h) = (if x3 ≤ x2 then zv_rv zS2 (g, h) else (bif zv_in x2 80 then zv_m zt_J_fill ca false 5 [some (.ref 34), some (.int x1), some (.int (x2 + 1)), some (.int x3)] [] zS2 ((zv_w g 34 x2.toNatClampNeg x1), h) else none)) := (zv_mn _ _ _ [5] 11 _ _ _ _ _).trans rfl
theorem zd_X6_forgetPicks_t (ca : zv_Ca) (g : Nat → Nat → Int32) (h : Nat → Nat → Int64) : zv_m zt_X6_forgetPicks ca false 0 [some (.ref 27)] [] zS2 (g, h) = ((ca 1 [.ref 34, .int (-2)] zS2 (g, h)).bind fun p1 => zv_rv zS2 p1.2) := (zv_mn _ _ _ [] 6 _ _ _ _ _).trans rfl
theorem zd_X6_distance_t (ca : zv_Ca) (g : Nat → Nat → Int32) (h : Nat → Nat → Int64) (a1 : Int32) (a2 : Int32) : zv_m zt_X6_distance ca false 0 [some (.ref 27), some (.int a1), some (.int a2), none] [] zS2 (g, h) = (if ((a1 * 5) + a2) < 0 then zv_ri 1000 zS2 (g, h) else (if (25 : Int32) ≤ ((a1 * 5) + a2) then zv_ri 1000 zS2 (g, h) else (bif zv_in ((a1 * 5) + a2) 25 then zv_ri (g 33 ((a1 * 5) + a2).toNatClampNeg) zS2 (g, h) else none))) := (zv_mn _ _ _ [] 18 _ _ _ _ _).trans rfl
theorem zd_X6_findNear_t (ca : zv_Ca) (g : Nat → Nat → Int32) (h : Nat → Nat → Int64) : zv_m zt_X6_findNear ca false 0 [some (.ref 27), none, none] [] zS2 (g, h) = zv_m zt_X6_findNear ca false 2 [some (.ref 27), some (.int 0), none] [] zS2 (g, h) := (zv_mn _ _ _ [2, 16] 4 _ _ _ _ _).trans rfl
theorem zd_X6_findNear_t_2 (ca : zv_Ca) (g : Nat → Nat → Int32) (h : Nat → Nat → Int64) (x1 : Int32) (u2 : Option Value) : zv_m zt_X6_findNear ca false 2 [some (.ref 27), some (.int x1), u2] [] zS2 (g, h) = (if (5 : Int32) ≤ x1 then zv_rv zS2 (g, h) else (bif zv_in x1 5 then zv_m zt_X6_findNear ca false 16 [some (.ref 27), some (.int x1), some (.int 0)] [] zS2 ((zv_w g 32 x1.toNatClampNeg 0), h) else none)) := (zv_mn _ _ _ [2, 16] 12 _ _ _ _ _).trans rfl
theorem zd_X6_findNear_t_16 (ca : zv_Ca) (g : Nat → Nat → Int32) (h : Nat → Nat → Int64) (x1 : Int32) (x2 : Int32) : zv_m zt_X6_findNear ca false 16 [some (.ref 27), some (.int x1), some (.int x2)] [] zS2 (g, h) = (if (g 9 1) ≤ x2 then zv_m zt_X6_findNear ca false 2 [some (.ref 27), some (.int (x1 + 1)), some (.int x2)] [] zS2 (g, h) else (if (4 : Int32) ≤ x2 then zv_m zt_X6_findNear ca false 2 [some (.ref 27), some (.int (x1 + 1)), some (.int x2)] [] zS2 (g, h) else (bif zv_in x1 5 then (bif zv_in x2 4 then ((ca 55 [.ref 27, .int x1, .int (g 12 x2.toNatClampNeg)] zS2 (g, h)).bind fun p3 => (if (1000 : Int32) ≤ p3.1.1 then (bif zv_in x1 5 then zv_m zt_X6_findNear ca false 16 [some (.ref 27), some (.int x1), some (.int (x2 + 1))] [] zS2 ((zv_w p3.2.1 32 x1.toNatClampNeg ((g 32 x1.toNatClampNeg) ||| 0)), p3.2.2) else none) else (bif zv_in x1 5 then zv_m zt_X6_findNear ca false 16 [some (.ref 27), some (.int x1), some (.int (x2 + 1))] [] zS2 ((zv_w p3.2.1 32 x1.toNatClampNeg ((g 32 x1.toNatClampNeg) ||| ((1 : Int32) <<< (x2 &&& 31)))), p3.2.2) else none))) else none) else none))) := (zv_mn _ _ _ [2, 16] 33 _ _ _ _ _).trans rfl
theorem zd_X6_measure_t (ca : zv_Ca) (g : Nat → Nat → Int32) (h : Nat → Nat → Int64) : zv_m zt_X6_measure ca false 0 [some (.ref 27), none, none, none, none, none, none] [] zS2 (g, h) = zv_m zt_X6_measure ca false 2 [some (.ref 27), some (.int 0), none, none, none, none, none] [] zS2 (g, h) := (zv_mn _ _ _ [2, 64, 71, 90] 4 _ _ _ _ _).trans rfl
theorem zd_X6_measure_t_2 (ca : zv_Ca) (g : Nat → Nat → Int32) (h : Nat → Nat → Int64) (x1 : Int32) (u2 : Option Value) (u3 : Option Value) (u4 : Option Value) (u5 : Option Value) (u6 : Option Value) : zv_m zt_X6_measure ca false 2 [some (.ref 27), some (.int x1), u2, u3, u4, u5, u6] [] zS2 (g, h) = (if (25 : Int32) ≤ x1 then zv_m zt_X6_measure ca false 64 [some (.ref 27), some (.int 0), u2, u3, u4, u5, u6] [] zS2 (g, h) else (bif zv_in x1 25 then (if (g 29 x1.toNatClampNeg) ≤ 0 then (if (x1 / 5) = (x1 - x1 / 5 * 5) then (bif zv_in x1 25 then zv_m zt_X6_measure ca false 2 [some (.ref 27), some (.int (x1 + 1)), some (.int 1000), u3, u4, u5, u6] [] zS2 ((zv_w g 33 x1.toNatClampNeg 0), h) else none) else (bif zv_in x1 25 then zv_m zt_X6_measure ca false 2 [some (.ref 27), some (.int (x1 + 1)), some (.int 1000), u3, u4, u5, u6] [] zS2 ((zv_w g 33 x1.toNatClampNeg 1000), h) else none)) else (bif zv_in x1 25 then (if (x1 / 5) = (x1 - x1 / 5 * 5) then (bif zv_in x1 25 then zv_m zt_X6_measure ca false 2 [some (.ref 27), some (.int (x1 + 1)), some (.int (g 29 x1.toNatClampNeg)), u3, u4, u5, u6] [] zS2 ((zv_w g 33 x1.toNatClampNeg 0), h) else none) else (bif zv_in x1 25 then zv_m zt_X6_measure ca false 2 [some (.ref 27), some (.int (x1 + 1)), some (.int (g 29 x1.toNatClampNeg)), u3, u4, u5, u6] [] zS2 ((zv_w g 33 x1.toNatClampNeg (g 29 x1.toNatClampNeg)), h) else none)) else none)) else none)) := (zv_mn _ _ _ [2, 64, 71, 90] 33 _ _ _ _ _).trans rfl
theorem zd_X6_measure_t_64 (ca : zv_Ca) (g : Nat → Nat → Int32) (h : Nat → Nat → Int64) (x1 : Int32) (u2 : Option Value) (u3 : Option Value) (u4 : Option Value) (u5 : Option Value) (u6 : Option Value) : zv_m zt_X6_measure ca false 64 [some (.ref 27), some (.int x1), u2, u3, u4, u5, u6] [] zS2 (g, h) = (if (5 : Int32) ≤ x1 then ((ca 54 [.ref 27] zS2 (g, h)).bind fun p2 => zv_rv zS2 p2.2) else zv_m zt_X6_measure ca false 71 [some (.ref 27), some (.int x1), some (.int 0), u3, u4, u5, u6] [] zS2 (g, h)) := (zv_mn _ _ _ [2, 64, 71, 90] 7 _ _ _ _ _).trans rfl
theorem zd_X6_measure_t_71 (ca : zv_Ca) (g : Nat → Nat → Int32) (h : Nat → Nat → Int64) (x1 : Int32) (x2 : Int32) (u3 : Option Value) (u4 : Option Value) (u5 : Option Value) (u6 : Option Value) : zv_m zt_X6_measure ca false 71 [some (.ref 27), some (.int x1), some (.int x2), u3, u4, u5, u6] [] zS2 (g, h) = (if (5 : Int32) ≤ x2 then zv_m zt_X6_measure ca false 64 [some (.ref 27), some (.int (x1 + 1)), some (.int x2), u3, u4, u5, u6] [] zS2 (g, h) else (bif zv_in ((x2 * 5) + x1) 25 then zv_m zt_X6_measure ca false 90 [some (.ref 27), some (.int x1), some (.int x2), some (.int (g 33 ((x2 * 5) + x1).toNatClampNeg)), some (.int 0), u5, u6] [] zS2 (g, h) else none)) := (zv_mn _ _ _ [2, 64, 71, 90] 16 _ _ _ _ _).trans rfl
theorem zd_X6_measure_t_90 (ca : zv_Ca) (g : Nat → Nat → Int32) (h : Nat → Nat → Int64) (x1 : Int32) (x2 : Int32) (x3 : Int32) (x4 : Int32) (u5 : Option Value) (u6 : Option Value) : zv_m zt_X6_measure ca false 90 [some (.ref 27), some (.int x1), some (.int x2), some (.int x3), some (.int x4), u5, u6] [] zS2 (g, h) = (if (5 : Int32) ≤ x4 then zv_m zt_X6_measure ca false 71 [some (.ref 27), some (.int x1), some (.int (x2 + 1)), some (.int x3), some (.int x4), u5, u6] [] zS2 (g, h) else (bif zv_in ((x1 * 5) + x4) 25 then (bif zv_in ((x2 * 5) + x4) 25 then (bif zv_in ((x2 * 5) + x4) 25 then zv_m zt_X6_measure ca false 90 [some (.ref 27), some (.int x1), some (.int x2), some (.int x3), some (.int (x4 + 1)), some (.int (x3 + (g 33 ((x1 * 5) + x4).toNatClampNeg))), some (.int ((x2 * 5) + x4))] [] zS2 ((zv_w g 33 ((x2 * 5) + x4).toNatClampNeg (if (x3 + (g 33 ((x1 * 5) + x4).toNatClampNeg)) < (g 33 ((x2 * 5) + x4).toNatClampNeg) then (x3 + (g 33 ((x1 * 5) + x4).toNatClampNeg)) else (g 33 ((x2 * 5) + x4).toNatClampNeg))), h) else none) else none) else none)) := (zv_mn _ _ _ [2, 64, 71, 90] 34 _ _ _ _ _).trans rfl
theorem zs_J_fill_t {d : Nat} {g : Nat → Nat → Int32} {h : Nat → Nat → Int64} {a2 : Int32} {r : zv_R} {D : zv_D} (q : zv_m zt_J_fill (zv_ev d) false 0 [some (.ref 34), some (.int a2), none, none] [] zS2 (g, h) = some (r, zS2, D)) : zv_ev (d + 1) 1 [.ref 34, .int a2] zS2 (g, h) = some (r, D) := congrArg (Option.map fun o : zv_O => (o.1, o.2.2)) q
theorem zs_X6_forgetPicks_t {d : Nat} {g : Nat → Nat → Int32} {h : Nat → Nat → Int64} {r : zv_R} {D : zv_D} (q : zv_m zt_X6_forgetPicks (zv_ev d) false 0 [some (.ref 27)] [] zS2 (g, h) = some (r, zS2, D)) : zv_ev (d + 1) 52 [.ref 27] zS2 (g, h) = some (r, D) := congrArg (Option.map fun o : zv_O => (o.1, o.2.2)) q
theorem zs_X6_distance_t {d : Nat} {g : Nat → Nat → Int32} {h : Nat → Nat → Int64} {a1 : Int32} {a2 : Int32} {r : zv_R} {D : zv_D} (q : zv_m zt_X6_distance (zv_ev d) false 0 [some (.ref 27), some (.int a1), some (.int a2), none] [] zS2 (g, h) = some (r, zS2, D)) : zv_ev (d + 1) 55 [.ref 27, .int a1, .int a2] zS2 (g, h) = some (r, D) := congrArg (Option.map fun o : zv_O => (o.1, o.2.2)) q
theorem zs_X6_findNear_t {d : Nat} {g : Nat → Nat → Int32} {h : Nat → Nat → Int64} {r : zv_R} {D : zv_D} (q : zv_m zt_X6_findNear (zv_ev d) false 0 [some (.ref 27), none, none] [] zS2 (g, h) = some (r, zS2, D)) : zv_ev (d + 1) 54 [.ref 27] zS2 (g, h) = some (r, D) := congrArg (Option.map fun o : zv_O => (o.1, o.2.2)) q
theorem zs_X6_measure_t {d : Nat} {g : Nat → Nat → Int32} {h : Nat → Nat → Int64} {r : zv_R} {D : zv_D} (q : zv_m zt_X6_measure (zv_ev d) false 0 [some (.ref 27), none, none, none, none, none, none] [] zS2 (g, h) = some (r, zS2, D)) : zv_ev (d + 1) 53 [.ref 27] zS2 (g, h) = some (r, D) := congrArg (Option.map fun o : zv_O => (o.1, o.2.2)) q
theorem ev_fill_t {dp : Nat} (Dm : zv_D) (v : Int32) : ∃ g', (∀ x, x ≠ 34 → g' x = Dm.1 x) ∧ (∀ q, q < 80 → g' 34 q = v) ∧ zv_ev (dp + 1) 1 [.ref 34, .int v] zS2 Dm = zo_v (g', Dm.2) := by
  obtain ⟨g1, ⟨f1, i1⟩, r1⟩ := zl_up (fun k (s : Nat → Nat → Int32) => zv_m zt_J_fill (zv_ev dp) false 5 [some (.ref 34), some (.int v), some (.int (nI k)), some (.int (nI 80))] [] zS2 (s, Dm.2)) 80 (fun k s => (∀ x, x ≠ 34 → s x = Dm.1 x) ∧ ∀ q, q < k → s 34 q = v) (by
    intro k s hk ⟨hf, hi⟩
    have hst := zd_J_fill_t_5 (zv_ev dp) s Dm.2 v (nI k) (nI 80)
    rw [if_neg (nI_ge hk (by decide)), zi_in hk (by decide), nI_clamp (by omega), nI_1] at hst
    refine ⟨_, ⟨fun x hx => (zw_cell _ _ _ hx).trans (hf x hx), fun q hq => ?_⟩, hst⟩
    by_cases hqk : q = k
    · subst hqk; exact zw_same _ _ _ _
    · rw [zw_other _ _ _ hqk]; exact hi q (by omega)) Dm.1 ⟨fun _ _ => rfl, fun q hq => absurd hq (Nat.not_lt_zero q)⟩
  refine ⟨g1, f1, i1, zs_J_fill_t ((zd_J_fill_t _ Dm.1 Dm.2 _).trans (r1.trans ?_))⟩
  rw [zd_J_fill_t_5, if_pos (nI_le (Nat.le_refl _) (by decide))]
theorem ev_forgetPicks_t {dp : Nat} (Dm : zv_D) : ∃ g', (∀ x, x ≠ 34 → g' x = Dm.1 x) ∧ (∀ k, k < 80 → g' 34 k = -2) ∧ zv_ev (dp + 2) 52 [.ref 27] zS2 Dm = zo_v (g', Dm.2) := by
  obtain ⟨g', f, i, r⟩ := ev_fill_t (dp := dp) (Dm.1, Dm.2) (-2)
  refine ⟨g', f, i, zs_X6_forgetPicks_t ((zd_X6_forgetPicks_t _ Dm.1 Dm.2).trans ?_)⟩
  rw [r]
  rfl
theorem ev_distance_t {dp : Nat} (Dm : zv_D) {i j : Nat} (hi : i < 5) (hj : j < 5) : zv_ev (dp + 1) 55 [.ref 27, .int (nI i), .int (nI j)] zS2 Dm = zo_i (Dm.1 33 (5 * i + j)) Dm := by
  refine zs_X6_distance_t ((zd_X6_distance_t _ Dm.1 Dm.2 _ _).trans ?_)
  rw [zx_pair hi hj, if_neg (nI_pos (by omega)), if_neg (zi_ge 25 25 rfl (by omega) (by decide)), zi_in (by omega) (by decide), nI_clamp (by omega)]
  rfl
/-! the reference's -/
theorem ev_findNear_t {dp : Nat} {Dm : zv_D} {T : zT} {X : zX} (hT : zT_ok T) (hm : Dm.1 9 1 = nI (zT_m T)) (hpl : ∀ e, e < 4 → Dm.1 12 e = nI (zT_pl T e)) (hd : ∀ i j, i < 5 → j < 5 → Dm.1 33 (5 * i + j) = nI (za_di (zX_co X) i j)) (hX : ∀ k, zX_co X k ≤ 9) :
    ∃ g', (∀ x, x ≠ 32 → g' x = Dm.1 x) ∧ (∀ i, i < 5 → g' 32 i = nI (zf_set (za_nr T X i))) ∧ zv_ev (dp + 2) 54 [.ref 27] zS2 Dm = zo_v (g', Dm.2) := by
  have h4 := hT.2.2.1
  obtain ⟨⟨g1, u1⟩, ⟨f1, i1⟩, r1⟩ := zl_up (σ := (Nat → Nat → Int32) × Option Value) (fun k s => zv_m zt_X6_findNear (zv_ev (dp + 1)) false 2 [some (.ref 27), some (.int (nI k)), s.2] [] zS2 (s.1, Dm.2)) 5 (fun k s => (∀ x, x ≠ 32 → s.1 x = Dm.1 x) ∧ ∀ i, i < k → s.1 32 i = nI (zf_set (za_nr T X i))) (by
    rintro i ⟨s, u⟩ hi ⟨hf, hn⟩
    dsimp only at hf hn
    have hst := zd_X6_findNear_t_2 (zv_ev (dp + 1)) s Dm.2 (nI i) u
    rw [if_neg (zi_ge 5 5 rfl hi (by decide)), zi_in hi (by decide), nI_clamp (by omega), cond_true] at hst
    obtain ⟨g2, ⟨f2, o2, v2⟩, r2⟩ := zl_up (fun e (t : Nat → Nat → Int32) => zv_m zt_X6_findNear (zv_ev (dp + 1)) false 16 [some (.ref 27), some (.int (nI i)), some (.int (nI e))] [] zS2 (t, Dm.2)) (zT_m T) (fun e t => (∀ x, x ≠ 32 → t x = Dm.1 x) ∧ (∀ q, q ≠ i → t 32 q = s 32 q) ∧ t 32 i = nI (zf_set fun e' => decide (e' < e) && za_nr T X i e')) (by
      intro e t he ⟨tf, to, tv⟩
      have e4 : e < 4 := by omega
      have hst := zd_X6_findNear_t_16 (zv_ev (dp + 1)) t Dm.2 (nI i) (nI e)
      rw [tf 9 (by decide), hm, if_neg (nI_ge he (by omega)), if_neg (zi_ge 4 4 rfl e4 (by decide)), zi_in hi (by decide), zi_in e4 (by decide), nI_clamp (by omega), nI_clamp (by omega), tf 12 (by decide), hpl e e4, ev_distance_t (dp := dp) (t, Dm.2) hi (hT.2.2.2.2.2.2.1 e), nI_1, zi_sh (by omega), tv] at hst
      simp only [Option.bind_some, cond_true] at hst
      rw [tf 33 (by decide), hd i _ hi (hT.2.2.2.2.2.2.1 e)] at hst
      have l1 := zf_set_lt (fun e' => decide (e' < e) && za_nr T X i e')
      have l2 := z2k e4
      have hfin := za_di_fin hX i (zT_pl T e)
      have go : ∀ v : Int32, v = nI (zf_set fun e' => decide (e' < e + 1) && za_nr T X i e') → (∀ x, x ≠ 32 → zv_w t 32 i v x = Dm.1 x) ∧ (∀ q, q ≠ i → zv_w t 32 i v 32 q = s 32 q) ∧ zv_w t 32 i v 32 i = nI (zf_set fun e' => decide (e' < e + 1) && za_nr T X i e') := fun v hv => ⟨fun x hx => (zw_cell _ _ _ hx).trans (tf x hx), fun q hq => by rw [zw_other _ _ _ hq]; exact to q hq, by rw [zw_same, hv]⟩
      by_cases hb : za_di (zX_co X) i (zT_pl T e) < 1000
      · rw [if_neg (zi_ge 1000 1000 rfl hb (by decide))] at hst
        refine ⟨_, go _ ?_, hst⟩
        rw [zi_or (by omega) (by omega), zf_pre_s (p := za_nr T X i) e4, if_pos (by unfold za_nr; simp [he, hb])]
      · rw [if_pos (zi_le 1000 1000 rfl (by omega) (by omega))] at hst
        refine ⟨_, go _ ?_, hst⟩
        rw [zf_pre_s (p := za_nr T X i) e4, if_neg (by unfold za_nr; simp [hb]), Int32.or_zero, Nat.or_zero]) (zv_w s 32 i 0) ⟨fun x hx => (zw_cell _ _ _ hx).trans (hf x hx), fun q hq => zw_other _ _ _ hq, by rw [zw_same, zf_pre_0 (p := za_nr T X i)]; rfl⟩
    have hst2 := zd_X6_findNear_t_16 (zv_ev (dp + 1)) g2 Dm.2 (nI i) (nI (zT_m T))
    rw [f2 9 (by decide), hm, if_pos (nI_le (Nat.le_refl _) (by omega)), nI_1] at hst2
    refine ⟨(g2, _), ⟨f2, fun q hq => ?_⟩, hst.trans (r2.trans hst2)⟩
    dsimp only
    by_cases hqi : q = i
    · subst hqi
      rw [v2]
      congr 2
      funext e'
      unfold za_nr
      by_cases h : e' < zT_m T
      · simp [h]
      · simp [h]
    · rw [o2 q hqi]; exact hn q (by omega)) (Dm.1, none) ⟨fun _ _ => rfl, fun q hq => absurd hq (Nat.not_lt_zero q)⟩
  dsimp only at f1 i1 r1
  refine ⟨g1, f1, i1, zs_X6_findNear_t ((zd_X6_findNear_t _ Dm.1 Dm.2).trans (r1.trans ?_))⟩
  rw [zd_X6_findNear_t_2, if_pos (zi_le 5 5 rfl (by decide) (by decide))]
theorem ev_measure_t {dp : Nat} {Dm : zv_D} {T : zT} {X : zX} (hT : zT_ok T) (hm : Dm.1 9 1 = nI (zT_m T)) (hpl : ∀ e, e < 4 → Dm.1 12 e = nI (zT_pl T e)) (hco : ∀ k, k < 25 → Dm.1 29 k = nI (zX_co X k)) (hX : ∀ k, zX_co X k ≤ 9) :
    ∃ g', (∀ x, x ≠ 32 → x ≠ 33 → g' x = Dm.1 x) ∧ (∀ i j, i < 5 → j < 5 → g' 33 (5 * i + j) = nI (za_di (zX_co X) i j)) ∧ (∀ i, i < 5 → g' 32 i = nI (zf_set (za_nr T X i))) ∧ zv_ev (dp + 3) 53 [.ref 27] zS2 Dm = zo_v (g', Dm.2) := by
  have dle : ∀ s i j, za_d (zX_co X) s i j ≤ 1000 := za_d_le hX
  -- the links
  obtain ⟨⟨g1, u1⟩, ⟨f1, i1⟩, r1⟩ := zl_up (σ := (Nat → Nat → Int32) × Option Value) (fun k s => zv_m zt_X6_measure (zv_ev (dp + 2)) false 2 [some (.ref 27), some (.int (nI k)), s.2, none, none, none, none] [] zS2 (s.1, Dm.2)) 25 (fun k s => (∀ x, x ≠ 33 → s.1 x = Dm.1 x) ∧ ∀ i j, i < 5 → j < 5 → 5 * i + j < k → s.1 33 (5 * i + j) = nI (za_d (zX_co X) 0 i j)) (by
    rintro k ⟨s, u⟩ hk ⟨hf, hi⟩
    dsimp only at hf hi
    have hst := zd_X6_measure_t_2 (zv_ev (dp + 2)) s Dm.2 (nI k) u none none none none
    have hd : nI k / 5 = nI (k / 5) := pk_div (d := 5) (by omega) (by decide) (by decide)
    have hr : nI k - nI (k / 5) * 5 = nI (k % 5) := by rw [← hd]; exact pk_rem (d := 5) (by omega) (by decide) (by decide)
    have hc := hX k
    rw [if_neg (zi_ge 25 25 rfl hk (by decide)), hd, hr, zi_in hk (by decide), nI_clamp (by omega), nI_1, hf 29 (by decide), hco k hk] at hst
    simp only [cond_true] at hst
    have go : ∀ (v : Int32), v = nI (if k / 5 = k % 5 then 0 else if 0 < zX_co X k then zX_co X k else 1000) → (∀ x, x ≠ 33 → zv_w s 33 k v x = Dm.1 x) ∧ ∀ i j, i < 5 → j < 5 → 5 * i + j < k + 1 → zv_w s 33 k v 33 (5 * i + j) = nI (za_d (zX_co X) 0 i j) := by
      intro v hv
      refine ⟨fun x hx => (zw_cell _ _ _ hx).trans (hf x hx), fun i j hi5 hj5 hq => ?_⟩
      by_cases hqk : 5 * i + j = k
      · rw [hqk, zw_same, hv, za_d_0, hqk]
        by_cases hij : i = j
        · rw [if_pos (by omega), if_pos hij]
        · rw [if_neg (by omega), if_neg hij]
      · rw [zw_other _ _ _ hqk]; exact hi i j hi5 hj5 (by omega)
    by_cases hz : zX_co X k = 0
    · rw [if_pos ((zi_le0 (by omega)).mpr hz)] at hst
      by_cases hij : k / 5 = k % 5
      · rw [if_pos (by rw [hij])] at hst
        exact ⟨(_, _), go _ (by rw [if_pos hij]; rfl), hst⟩
      · rw [if_neg (fun z => hij ((nI_eq (by omega) (by omega)).mp z))] at hst
        exact ⟨(_, _), go _ (by rw [if_neg hij, if_neg (by omega)]; rfl), hst⟩
    · rw [if_neg (fun z => hz ((zi_le0 (by omega)).mp z))] at hst
      by_cases hij : k / 5 = k % 5
      · rw [if_pos (by rw [hij])] at hst
        exact ⟨(_, _), go _ (by rw [if_pos hij]; rfl), hst⟩
      · rw [if_neg (fun z => hij ((nI_eq (by omega) (by omega)).mp z))] at hst
        exact ⟨(_, _), go _ (by rw [if_neg hij, if_pos (by omega)]), hst⟩) (Dm.1, none) ⟨fun _ _ => rfl, fun i j _ _ hq => absurd hq (Nat.not_lt_zero _)⟩
  dsimp only at f1 i1 r1
  -- over each router
  obtain ⟨⟨g2, w2, w3, w4, w5, w6⟩, ⟨f2, i2⟩, r2⟩ := zl_up (σ := (Nat → Nat → Int32) × Option Value × Option Value × Option Value × Option Value × Option Value) (fun o s => zv_m zt_X6_measure (zv_ev (dp + 2)) false 64 [some (.ref 27), some (.int (nI o)), s.2.1, s.2.2.1, s.2.2.2.1, s.2.2.2.2.1, s.2.2.2.2.2] [] zS2 (s.1, Dm.2)) 5 (fun o s => (∀ x, x ≠ 33 → s.1 x = Dm.1 x) ∧ ∀ i j, i < 5 → j < 5 → s.1 33 (5 * i + j) = nI (za_d (zX_co X) o i j)) (by
    rintro o ⟨s, v2, v3, v4, v5, v6⟩ ho ⟨hf, hi⟩
    dsimp only at hf hi
    have hst := zd_X6_measure_t_64 (zv_ev (dp + 2)) s Dm.2 (nI o) v2 v3 v4 v5 v6
    rw [if_neg (zi_ge 5 5 rfl ho (by decide))] at hst
    obtain ⟨⟨g3, y3, y4, y5, y6⟩, ⟨f3, i3⟩, r3⟩ := zl_up (σ := (Nat → Nat → Int32) × Option Value × Option Value × Option Value × Option Value) (fun i t => zv_m zt_X6_measure (zv_ev (dp + 2)) false 71 [some (.ref 27), some (.int (nI o)), some (.int (nI i)), t.2.1, t.2.2.1, t.2.2.2.1, t.2.2.2.2] [] zS2 (t.1, Dm.2)) 5 (fun i t => (∀ x, x ≠ 33 → t.1 x = Dm.1 x) ∧ ∀ a b, a < 5 → b < 5 → t.1 33 (5 * a + b) = nI (za_d (zX_co X) (if a < i then o + 1 else o) a b)) (by
      rintro i ⟨t, z3, z4, z5, z6⟩ hi' ⟨tf, ti⟩
      dsimp only at tf ti
      have hst := zd_X6_measure_t_71 (zv_ev (dp + 2)) t Dm.2 (nI o) (nI i) z3 z4 z5 z6
      have eo : t 33 (5 * i + o) = nI (za_d (zX_co X) o i o) := by rw [ti i o hi' ho, if_neg (Nat.lt_irrefl i)]
      rw [if_neg (zi_ge 5 5 rfl hi' (by decide)), zx_pair hi' ho, zi_in (n := 25) (by omega) (by decide), nI_clamp (by omega), eo, cond_true] at hst
      obtain ⟨⟨g4, x5, x6⟩, ⟨f4, i4⟩, r4⟩ := zl_up (σ := (Nat → Nat → Int32) × Option Value × Option Value) (fun j p => zv_m zt_X6_measure (zv_ev (dp + 2)) false 90 [some (.ref 27), some (.int (nI o)), some (.int (nI i)), some (.int (nI (za_d (zX_co X) o i o))), some (.int (nI j)), p.2.1, p.2.2] [] zS2 (p.1, Dm.2)) 5 (fun j p => (∀ x, x ≠ 33 → p.1 x = Dm.1 x) ∧ ∀ a b, a < 5 → b < 5 → p.1 33 (5 * a + b) = nI (za_d (zX_co X) (if a < i ∨ (a = i ∧ b < j) then o + 1 else o) a b)) (by
        rintro j ⟨p, q5, q6⟩ hj ⟨pf, pi⟩
        dsimp only at pf pi
        have hst := zd_X6_measure_t_90 (zv_ev (dp + 2)) p Dm.2 (nI o) (nI i) (nI (za_d (zX_co X) o i o)) (nI j) q5 q6
        have e1 : p 33 (5 * o + j) = nI (za_d (zX_co X) o o j) := by
          rw [pi o j ho hj]
          by_cases hc : o < i ∨ (o = i ∧ j < j)
          · rw [if_pos hc, za_d_row]
          · rw [if_neg hc]
        have e2 : p 33 (5 * i + j) = nI (za_d (zX_co X) o i j) := by
          rw [pi i j hi' hj, if_neg (by omega)]
        have l1 := dle o i o
        have l2 := dle o o j
        have l3 := dle o i j
        rw [if_neg (zi_ge 5 5 rfl hj (by decide)), zx_pair ho hj, zx_pair hi' hj, zi_in (n := 25) (by omega) (by decide), zi_in (n := 25) (by omega) (by decide), nI_clamp (by omega), nI_clamp (by omega), e1, e2, nI_add, zi_min (by omega) (by omega), nI_1] at hst
        simp only [cond_true] at hst
        refine ⟨(zv_w p 33 (5 * i + j) (nI (min (za_d (zX_co X) o i j) (za_d (zX_co X) o i o + za_d (zX_co X) o o j))), _, _), ⟨fun x hx => (zw_cell _ _ _ hx).trans (pf x hx), fun a b ha hb => ?_⟩, hst⟩
        dsimp only
        by_cases hab : 5 * a + b = 5 * i + j
        · have ea : a = i := by omega
          have eb : b = j := by omega
          subst ea; subst eb
          rw [zw_same, if_pos (by omega)]
          rfl
        · rw [zw_other _ _ _ hab, pi a b ha hb]
          by_cases hc : a < i ∨ (a = i ∧ b < j)
          · rw [if_pos hc, if_pos (by omega)]
          · rw [if_neg hc, if_neg (by omega)]) (t, z5, z6) ⟨tf, fun a b ha hb => by
            dsimp only
            rw [ti a b ha hb]
            by_cases hc : a < i
            · rw [if_pos hc, if_pos (Or.inl hc)]
            · rw [if_neg hc, if_neg (by omega)]⟩
      dsimp only at f4 i4 r4
      have hst2 := zd_X6_measure_t_90 (zv_ev (dp + 2)) g4 Dm.2 (nI o) (nI i) (nI (za_d (zX_co X) o i o)) (nI 5) x5 x6
      rw [if_pos (zi_le 5 5 rfl (by decide) (by decide)), nI_1] at hst2
      refine ⟨(g4, _, _, _, _), ⟨f4, fun a b ha hb => ?_⟩, hst.trans (r4.trans hst2)⟩
      dsimp only
      rw [i4 a b ha hb]
      by_cases hc : a < i + 1
      · rw [if_pos hc, if_pos (by omega)]
      · rw [if_neg hc, if_neg (by omega)]) (s, v3, v4, v5, v6) ⟨hf, fun a b ha hb => by
        dsimp only
        rw [hi a b ha hb, if_neg (Nat.not_lt_zero a)]⟩
    dsimp only at f3 i3 r3
    have hst2 := zd_X6_measure_t_71 (zv_ev (dp + 2)) g3 Dm.2 (nI o) (nI 5) y3 y4 y5 y6
    rw [if_pos (zi_le 5 5 rfl (by decide) (by decide)), nI_1] at hst2
    refine ⟨(g3, _, _, _, _, _), ⟨f3, fun i j hi5 hj5 => ?_⟩, hst.trans (r3.trans hst2)⟩
    dsimp only
    rw [i3 i j hi5 hj5, if_pos hi5]) (g1, u1, none, none, none, none) ⟨f1, fun i j hi5 hj5 => i1 i j hi5 hj5 (by omega)⟩
  dsimp only at f2 i2 r2
  obtain ⟨g5, f5, i5, r5⟩ := ev_findNear_t (dp := dp) (Dm := (g2, Dm.2)) (T := T) (X := X) hT (by dsimp only; rw [f2 9 (by decide)]; exact hm) (fun e he => by dsimp only; rw [f2 12 (by decide)]; exact hpl e he) i2 hX
  dsimp only at f5 i5 r5
  refine ⟨g5, fun x h1 h2 => (f5 x h1).trans (f2 x h2), fun i j hi hj => by rw [f5 33 (by decide)]; exact i2 i j hi hj, i5, zs_X6_measure_t ((zd_X6_measure_t _ Dm.1 Dm.2).trans (r1.trans ?_))⟩
  rw [zd_X6_measure_t_2, if_pos (zi_le 25 25 rfl (by decide) (by decide))]
  refine r2.trans ?_
  rw [zd_X6_measure_t_64, if_pos (zi_le 5 5 rfl (by decide) (by decide)), r5]
  rfl
