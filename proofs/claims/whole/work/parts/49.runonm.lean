def zU (g g' : Nat → Nat → Int32) (T : zT) (X : zX) (A : zA) (o en pe k : Nat) : Prop := zR (za_it T X A) o en pe k ∧ zP g g' ∧ zM_R (g' 121) T X (za_it T X A k) ∧ zM_K g' T X ∧ g' 116 24 = nI o ∧ (o = 2 → g' 116 25 = -9 ∧ g' 116 26 = -9) ∧ (o ≠ 2 → g' 116 25 = nI en ∧ g' 116 26 = nI pe)
theorem ev_runOn {dp : Nat} {Dm : zv_D} {T : zT} {X : zX} {A : zA} (hT : zT_ok T) (hX : zX_ok T X) (hW : za_W T A) (hR : zM_R (Dm.1 121) T X A) : ∃ g' o en pe k, zU Dm.1 g' T X A o en pe k ∧ zv_ev (dp + 7) 188 [.ref 116, .ref 121] zS0 Dm = zo_v (g', Dm.2) := by
  have hS : ∀ k, za_W T (za_it T X A k) := za_it_W hT hW
  obtain ⟨g1, f1, K1, r1⟩ := ev_layCosts_121 (dp := dp + 4) (Dm := (Dm.1, Dm.2)) hT hX hR
  dsimp only at f1 r1
  obtain ⟨g2, f2, -, n2, r2⟩ := ev_noteState (dp := dp + 5) (zv_w (zv_w (zv_w g1 116 24 2) 116 25 (-9)) 116 26 (-9), Dm.2) (r := 0) (by decide)
  dsimp only at f2 n2 r2
  have hst := zd_X9_runOn_p121 (zv_ev (dp + 6)) Dm.1 Dm.2
  rw [r1] at hst
  simp only [Option.bind_some] at hst
  have r2' : zv_ev (dp + 6) 186 [.ref 116, .ref 121, .int 0] zS0 (zv_w (zv_w (zv_w g1 116 24 2) 116 25 (-9)) 116 26 (-9), Dm.2) = zo_v (g2, Dm.2) := r2
  rw [r2'] at hst
  simp only [Option.bind_some] at hst
  have w3 : ∀ x, x ≠ 116 → zv_w (zv_w (zv_w g1 116 24 2) 116 25 (-9)) 116 26 (-9) x = g1 x := fun x hx => (zw_cell _ _ _ hx).trans ((zw_cell _ _ _ hx).trans (zw_cell _ _ _ hx))
  have p2 : zP Dm.1 g2 := ⟨fun x a b c d e f k l => (f2 x l).trans ((w3 x a).trans (f1 x c)), fun q hq => by
    rw [f2 116 (by decide), zw_other _ _ _ (by omega), zw_other _ _ _ (by omega), zw_other _ _ _ (by omega), f1 116 (by decide)]⟩
  have page2 : g2 121 = Dm.1 121 := (f2 121 (by decide)).trans ((w3 121 (by decide)).trans (f1 121 (by decide)))
  have K2 : zM_K g2 T X := fun i j hi hj => (congrFun ((f2 128 (by decide)).trans (w3 128 (by decide))) _).trans (K1 i j hi hj)
  rcases zl_ex (σ := (Nat → Nat → Int32) × Option Value) (fun r s => zv_m zt_X9_runOn (zv_ev (dp + 6)) false 30 [some (.ref 116), some (.ref 121), some (.int (nI (r + 1))), s.2] [] zS0 (s.1, Dm.2)) 60 (fun r s => zP Dm.1 s.1 ∧ zM_R (s.1 121) T X (za_it T X A r) ∧ zM_K s.1 T X ∧ zG s.1 (za_it T X A) (r + 1) ∧ s.1 116 24 = 2 ∧ s.1 116 25 = -9 ∧ s.1 116 26 = -9 ∧ ∀ a b, a < b → b ≤ r → za_it T X A a ≠ za_it T X A b) (fun z => ∃ g' o en pe k, zU Dm.1 g' T X A o en pe k ∧ z = zv_rv zS0 (g', Dm.2)) (by
    rintro r ⟨s, u⟩ hr ⟨hp, hR', hK', hG, h24, h25, h26, hd⟩
    dsimp only at hp hR' hK' hG h24 h25 h26
    obtain ⟨g3, f3, R3, r3⟩ := ev_roundOn_121 (dp := dp) (Dm := (s, Dm.2)) hT hX hR' hK' (hS r)
    dsimp only at f3 r3
    have R3' : zM_R (g3 121) T X (za_it T X A (r + 1)) := R3
    obtain ⟨g4, f4, o4, n4, r4⟩ := ev_noteState (dp := dp + 5) (g3, Dm.2) (r := r + 1) (by omega)
    dsimp only at f4 o4 n4 r4
    have k133 : g3 133 = s 133 := f3 133 (by decide) (by decide) (by decide) (by decide) (by decide)
    have k116 : g4 116 = s 116 := (f4 116 (by decide)).trans (f3 116 (by decide) (by decide) (by decide) (by decide) (by decide))
    have k128 : g4 128 = s 128 := (f4 128 (by decide)).trans (f3 128 (by decide) (by decide) (by decide) (by decide) (by decide))
    have G4 : zG g4 (za_it T X A) (r + 1 + 1) := by
      intro a j q ha hj hq
      by_cases har : a = r + 1
      · subst har
        rw [n4 _ (by omega), ← Nat.add_assoc]
        exact zM_R_t R3' hj hq
      · rw [o4 _ (by omega), k133]
        exact hG a j q (by omega) hj hq
    have p4 : zP Dm.1 g4 := zP_trans hp (zP_of (fun x b c d e f k l => (f4 x l).trans (f3 x b d e f k)))
    obtain ⟨g5, f5, o5, y5, r5⟩ := zx_search (dp := dp + 5) (g := g4) (h := Dm.2) (S := za_it T X A) (n := r + 1) hT hS (by omega) G4 (by rw [k116]; exact h24) (by rw [k116]; exact h25) (by rw [k116]; exact h26)
    have p5 : zP Dm.1 g5 := zP_trans p4 ⟨fun x a _ _ _ _ _ _ _ => f5 x a, o5⟩
    have R5 : zM_R (g5 121) T X (za_it T X A (r + 1)) := by rw [f5 121 (by decide), f4 121 (by decide)]; exact R3'
    have K5 : zM_K g5 T X := fun i j hi hj => (congrFun ((f5 128 (by decide)).trans k128) _).trans (hK' i j hi hj)
    have hs1 := zd_X9_runOn_p121_30 (zv_ev (dp + 6)) s Dm.2 (nI (r + 1)) u
    rw [if_neg (show ¬ (60 : Int32) < nI (r + 1) from nI_nlt (a := 60) (b := r + 1) (by omega) (by decide)), if_pos h24, r3] at hs1
    simp only [Option.bind_some] at hs1
    rw [r4] at hs1
    simp only [Option.bind_some] at hs1
    have hs2 := zd_X9_runOn_p121_60 (zv_ev (dp + 6)) g5 Dm.2 (nI (r + 1)) (nI 0 - 1)
    rw [if_pos (by decide), nI_1] at hs2
    have hs3 := hs1.trans (r5.trans hs2)
    rcases y5 with ⟨y1, y2, y3, y4⟩ | ⟨c, c1, c2, c3, c4, c5⟩
    · refine Or.inr ⟨(g5, _), ⟨p5, R5, K5, ?_, y1, y2, y3, fun a b hab hb => ?_⟩, hs3⟩
      · intro a j q ha hj hq
        dsimp only
        rw [f5 133 (by decide)]
        exact G4 a j q ha hj hq
      · by_cases hbr : b = r + 1
        · subst hbr; exact y4 a (Nat.zero_le _) hab
        · exact hd a b hab (by omega)
    · have h2 : ¬ g5 116 24 = 2 := by
        rcases c5 with q | q
        · rw [q.2.1]; decide
        · rw [q.2.1]; decide
      have hs4 := zd_X9_runOn_p121_30 (zv_ev (dp + 6)) g5 Dm.2 (nI (r + 1 + 1)) (some (.int (nI 0 - 1)))
      rw [if_neg h2, ite_self] at hs4
      rcases c5 with ⟨d1, d2, d3⟩ | ⟨d1, d2, d3⟩
      · refine Or.inl ⟨g5, 0, r, 0, r + 1, ⟨⟨fun a b hab hb => hd a b hab (by omega), Or.inl ⟨rfl, by omega, by omega, ?_, by omega, rfl⟩⟩, p5, R5, K5, d2, fun z => absurd z (by decide), fun _ => ⟨?_, d3⟩⟩, hs3.trans hs4⟩
        · rw [← d1]; exact c3
        · rw [c4, d1]; rfl
      · exact Or.inl ⟨g5, 1, c, r + 1 - c, r + 1, ⟨⟨fun a b hab hb => hd a b hab (by omega), Or.inr (Or.inl ⟨rfl, by omega, by omega, c3, rfl⟩)⟩, p5, R5, K5, d2, fun z => absurd z (by decide), fun _ => ⟨c4, d3⟩⟩, hs3.trans hs4⟩) (g2, none) ⟨p2, by
        show zM_R (g2 121) T X A
        rw [page2]; exact hR, K2, fun a j q ha hj hq => by
        have e : a = 0 := by omega
        subst e
        dsimp only
        rw [n2 _ (by omega), w3 121 (by decide), f1 121 (by decide), ← Nat.add_assoc]
        exact zM_R_t hR hj hq, by
        show g2 116 24 = 2
        rw [f2 116 (by decide), zw_other _ _ _ (by decide), zw_other _ _ _ (by decide), zw_same], by
        show g2 116 25 = -9
        rw [f2 116 (by decide), zw_other _ _ _ (by decide), zw_same], by
        show g2 116 26 = -9
        rw [f2 116 (by decide), zw_same], fun a b hab hb => absurd hb (by omega)⟩ with ⟨g', o, en, pe, k, q1, q2⟩ | ⟨⟨g', u⟩, ⟨a1, a2, a3, a4, a5, a6, a7, a8⟩, q2⟩
  · exact ⟨g', o, en, pe, k, q1, zs_X9_runOn_p121 (hst.trans q2)⟩
  · dsimp only at a1 a2 a3 a4 a5 a6 a7
    refine ⟨g', 2, 0, 0, 60, ⟨⟨fun a b hab hb => a8 a b hab (by omega), Or.inr (Or.inr ⟨rfl, rfl, rfl, rfl, fun a ha => a8 a 60 ha (Nat.le_refl _)⟩)⟩, a1, a2, a3, a5, fun _ => ⟨a6, a7⟩, fun z => absurd rfl z⟩, zs_X9_runOn_p121 (hst.trans (q2.trans ?_))⟩
    show zv_m zt_X9_runOn (zv_ev (dp + 6)) false 30 [some (.ref 116), some (.ref 121), some (.int (nI 61)), u] [] zS0 (g', Dm.2) = _
    rw [zd_X9_runOn_p121_30, if_pos (by decide)]
