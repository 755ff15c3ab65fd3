theorem ev_measure {dp : Nat} {Dm : zv_D} {T : zT} {X : zX} (hT : zT_ok T) (hm : Dm.1 9 1 = nI (zT_m T)) (hpl : ∀ e, e < 4 → Dm.1 12 e = nI (zT_pl T e)) (hco : ∀ k, k < 25 → Dm.1 18 k = nI (zX_co X k)) (hX : ∀ k, zX_co X k ≤ 9) :
    ∃ g', (∀ x, x ≠ 21 → x ≠ 22 → g' x = Dm.1 x) ∧ (∀ i j, i < 5 → j < 5 → g' 22 (5 * i + j) = nI (za_di (zX_co X) i j)) ∧ (∀ i, i < 5 → g' 21 i = nI (zf_set (za_nr T X i))) ∧ zv_ev (dp + 3) 53 [.ref 16] zS0 Dm = zo_v (g', Dm.2) := by
  have dle : ∀ s i j, za_d (zX_co X) s i j ≤ 1000 := za_d_le hX
  -- the links
  obtain ⟨⟨g1, u1⟩, ⟨f1, i1⟩, r1⟩ := zl_up (σ := (Nat → Nat → Int32) × Option Value) (fun k s => zv_m zt_X6_measure (zv_ev (dp + 2)) false 2 [some (.ref 16), some (.int (nI k)), s.2, none, none, none, none] [] zS0 (s.1, Dm.2)) 25 (fun k s => (∀ x, x ≠ 22 → s.1 x = Dm.1 x) ∧ ∀ i j, i < 5 → j < 5 → 5 * i + j < k → s.1 22 (5 * i + j) = nI (za_d (zX_co X) 0 i j)) (by
    rintro k ⟨s, u⟩ hk ⟨hf, hi⟩
    dsimp only at hf hi
    have hst := zd_X6_measure_16_2 (zv_ev (dp + 2)) s Dm.2 (nI k) u none none none none
    have hd : nI k / 5 = nI (k / 5) := pk_div (d := 5) (by omega) (by decide) (by decide)
    have hr : nI k - nI (k / 5) * 5 = nI (k % 5) := by rw [← hd]; exact pk_rem (d := 5) (by omega) (by decide) (by decide)
    have hc := hX k
    rw [if_neg (zi_ge 25 25 rfl hk (by decide)), hd, hr, zi_in hk (by decide), nI_clamp (by omega), nI_1, hf 18 (by decide), hco k hk] at hst
    simp only [cond_true] at hst
    have go : ∀ (v : Int32), v = nI (if k / 5 = k % 5 then 0 else if 0 < zX_co X k then zX_co X k else 1000) → (∀ x, x ≠ 22 → zv_w s 22 k v x = Dm.1 x) ∧ ∀ i j, i < 5 → j < 5 → 5 * i + j < k + 1 → zv_w s 22 k v 22 (5 * i + j) = nI (za_d (zX_co X) 0 i j) := by
      intro v hv
      refine ⟨fun x hx => (zw_cell _ _ _ hx).trans (hf x hx), fun i j hi5 hj5 hq => ?_⟩
      by_cases hqk : 5 * i + j = k
      · rw [hqk, zw_same, hv, za_d_0, hqk]
        by_cases hij : i = j
        · rw [if_pos (by omega), if_pos hij]
        · rw [if_neg (by omega), if_neg hij]
      · rw [zw_other _ _ _ hqk]; exact hi i j hi5 hj5 (by omega)
    by_cases hz : zX_co X k = 0
    · rw [if_pos ((zi_le0 (by omega)).mpr hz)] at hst
      by_cases hij : k / 5 = k % 5
      · rw [if_pos (by rw [hij])] at hst
        exact ⟨(_, _), go _ (by rw [if_pos hij]; rfl), hst⟩
      · rw [if_neg (fun z => hij ((nI_eq (by omega) (by omega)).mp z))] at hst
        exact ⟨(_, _), go _ (by rw [if_neg hij, if_neg (by omega)]; rfl), hst⟩
    · rw [if_neg (fun z => hz ((zi_le0 (by omega)).mp z))] at hst
      by_cases hij : k / 5 = k % 5
      · rw [if_pos (by rw [hij])] at hst
        exact ⟨(_, _), go _ (by rw [if_pos hij]; rfl), hst⟩
      · rw [if_neg (fun z => hij ((nI_eq (by omega) (by omega)).mp z))] at hst
        exact ⟨(_, _), go _ (by rw [if_neg hij, if_pos (by omega)]), hst⟩) (Dm.1, none) ⟨fun _ _ => rfl, fun i j _ _ hq => absurd hq (Nat.not_lt_zero _)⟩
  dsimp only at f1 i1 r1
  -- over each router
  obtain ⟨⟨g2, w2, w3, w4, w5, w6⟩, ⟨f2, i2⟩, r2⟩ := zl_up (σ := (Nat → Nat → Int32) × Option Value × Option Value × Option Value × Option Value × Option Value) (fun o s => zv_m zt_X6_measure (zv_ev (dp + 2)) false 64 [some (.ref 16), some (.int (nI o)), s.2.1, s.2.2.1, s.2.2.2.1, s.2.2.2.2.1, s.2.2.2.2.2] [] zS0 (s.1, Dm.2)) 5 (fun o s => (∀ x, x ≠ 22 → s.1 x = Dm.1 x) ∧ ∀ i j, i < 5 → j < 5 → s.1 22 (5 * i + j) = nI (za_d (zX_co X) o i j)) (by
    rintro o ⟨s, v2, v3, v4, v5, v6⟩ ho ⟨hf, hi⟩
    dsimp only at hf hi
    have hst := zd_X6_measure_16_64 (zv_ev (dp + 2)) s Dm.2 (nI o) v2 v3 v4 v5 v6
    rw [if_neg (zi_ge 5 5 rfl ho (by decide))] at hst
    obtain ⟨⟨g3, y3, y4, y5, y6⟩, ⟨f3, i3⟩, r3⟩ := zl_up (σ := (Nat → Nat → Int32) × Option Value × Option Value × Option Value × Option Value) (fun i t => zv_m zt_X6_measure (zv_ev (dp + 2)) false 71 [some (.ref 16), some (.int (nI o)), some (.int (nI i)), t.2.1, t.2.2.1, t.2.2.2.1, t.2.2.2.2] [] zS0 (t.1, Dm.2)) 5 (fun i t => (∀ x, x ≠ 22 → t.1 x = Dm.1 x) ∧ ∀ a b, a < 5 → b < 5 → t.1 22 (5 * a + b) = nI (za_d (zX_co X) (if a < i then o + 1 else o) a b)) (by
      rintro i ⟨t, z3, z4, z5, z6⟩ hi' ⟨tf, ti⟩
      dsimp only at tf ti
      have hst := zd_X6_measure_16_71 (zv_ev (dp + 2)) t Dm.2 (nI o) (nI i) z3 z4 z5 z6
      have eo : t 22 (5 * i + o) = nI (za_d (zX_co X) o i o) := by rw [ti i o hi' ho, if_neg (Nat.lt_irrefl i)]
      rw [if_neg (zi_ge 5 5 rfl hi' (by decide)), zx_pair hi' ho, zi_in (n := 25) (by omega) (by decide), nI_clamp (by omega), eo, cond_true] at hst
      obtain ⟨⟨g4, x5, x6⟩, ⟨f4, i4⟩, r4⟩ := zl_up (σ := (Nat → Nat → Int32) × Option Value × Option Value) (fun j p => zv_m zt_X6_measure (zv_ev (dp + 2)) false 90 [some (.ref 16), some (.int (nI o)), some (.int (nI i)), some (.int (nI (za_d (zX_co X) o i o))), some (.int (nI j)), p.2.1, p.2.2] [] zS0 (p.1, Dm.2)) 5 (fun j p => (∀ x, x ≠ 22 → p.1 x = Dm.1 x) ∧ ∀ a b, a < 5 → b < 5 → p.1 22 (5 * a + b) = nI (za_d (zX_co X) (if a < i ∨ (a = i ∧ b < j) then o + 1 else o) a b)) (by
        rintro j ⟨p, q5, q6⟩ hj ⟨pf, pi⟩
        dsimp only at pf pi
        have hst := zd_X6_measure_16_90 (zv_ev (dp + 2)) p Dm.2 (nI o) (nI i) (nI (za_d (zX_co X) o i o)) (nI j) q5 q6
        have e1 : p 22 (5 * o + j) = nI (za_d (zX_co X) o o j) := by
          rw [pi o j ho hj]
          by_cases hc : o < i ∨ (o = i ∧ j < j)
          · rw [if_pos hc, za_d_row]
          · rw [if_neg hc]
        have e2 : p 22 (5 * i + j) = nI (za_d (zX_co X) o i j) := by
          rw [pi i j hi' hj, if_neg (by omega)]
        have l1 := dle o i o
        have l2 := dle o o j
        have l3 := dle o i j
        rw [if_neg (zi_ge 5 5 rfl hj (by decide)), zx_pair ho hj, zx_pair hi' hj, zi_in (n := 25) (by omega) (by decide), zi_in (n := 25) (by omega) (by decide), nI_clamp (by omega), nI_clamp (by omega), e1, e2, nI_add, zi_min (by omega) (by omega), nI_1] at hst
        simp only [cond_true] at hst
        refine ⟨(zv_w p 22 (5 * i + j) (nI (min (za_d (zX_co X) o i j) (za_d (zX_co X) o i o + za_d (zX_co X) o o j))), _, _), ⟨fun x hx => (zw_cell _ _ _ hx).trans (pf x hx), fun a b ha hb => ?_⟩, hst⟩
        dsimp only
        by_cases hab : 5 * a + b = 5 * i + j
        · have ea : a = i := by omega
          have eb : b = j := by omega
          subst ea; subst eb
          rw [zw_same, if_pos (by omega)]
          rfl
        · rw [zw_other _ _ _ hab, pi a b ha hb]
          by_cases hc : a < i ∨ (a = i ∧ b < j)
          · rw [if_pos hc, if_pos (by omega)]
          · rw [if_neg hc, if_neg (by omega)]) (t, z5, z6) ⟨tf, fun a b ha hb => by
            dsimp only
            rw [ti a b ha hb]
            by_cases hc : a < i
            · rw [if_pos hc, if_pos (Or.inl hc)]
            · rw [if_neg hc, if_neg (by omega)]⟩
      dsimp only at f4 i4 r4
      have hst2 := zd_X6_measure_16_90 (zv_ev (dp + 2)) g4 Dm.2 (nI o) (nI i) (nI (za_d (zX_co X) o i o)) (nI 5) x5 x6
      rw [if_pos (zi_le 5 5 rfl (by decide) (by decide)), nI_1] at hst2
      refine ⟨(g4, _, _, _, _), ⟨f4, fun a b ha hb => ?_⟩, hst.trans (r4.trans hst2)⟩
      dsimp only
      rw [i4 a b ha hb]
      by_cases hc : a < i + 1
      · rw [if_pos hc, if_pos (by omega)]
      · rw [if_neg hc, if_neg (by omega)]) (s, v3, v4, v5, v6) ⟨hf, fun a b ha hb => by
        dsimp only
        rw [hi a b ha hb, if_neg (Nat.not_lt_zero a)]⟩
    dsimp only at f3 i3 r3
    have hst2 := zd_X6_measure_16_71 (zv_ev (dp + 2)) g3 Dm.2 (nI o) (nI 5) y3 y4 y5 y6
    rw [if_pos (zi_le 5 5 rfl (by decide) (by decide)), nI_1] at hst2
    refine ⟨(g3, _, _, _, _, _), ⟨f3, fun i j hi5 hj5 => ?_⟩, hst.trans (r3.trans hst2)⟩
    dsimp only
    rw [i3 i j hi5 hj5, if_pos hi5]) (g1, u1, none, none, none, none) ⟨f1, fun i j hi5 hj5 => i1 i j hi5 hj5 (by omega)⟩
  dsimp only at f2 i2 r2
  obtain ⟨g5, f5, i5, r5⟩ := ev_findNear (dp := dp) (Dm := (g2, Dm.2)) (T := T) (X := X) hT (by dsimp only; rw [f2 9 (by decide)]; exact hm) (fun e he => by dsimp only; rw [f2 12 (by decide)]; exact hpl e he) i2 hX
  dsimp only at f5 i5 r5
  refine ⟨g5, fun x h1 h2 => (f5 x h1).trans (f2 x h2), fun i j hi hj => by rw [f5 22 (by decide)]; exact i2 i j hi hj, i5, zs_X6_measure_16 ((zd_X6_measure_16 _ Dm.1 Dm.2).trans (r1.trans ?_))⟩
  rw [zd_X6_measure_16_2, if_pos (zi_le 25 25 rfl (by decide) (by decide))]
  refine r2.trans ?_
  rw [zd_X6_measure_16_64, if_pos (zi_le 5 5 rfl (by decide) (by decide)), r5]
  rfl
