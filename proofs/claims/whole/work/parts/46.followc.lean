def zQ (g g' : Nat → Nat → Int32) (T : zT) (X : zX) (A : zA) (o en pe k : Nat) : Prop := zR (za_it T X A) o en pe k ∧ zF 27 39 g g' ∧ zC 27 g' T X (za_it T X A k) ∧ g' 38 0 = nI o ∧ g' 38 1 = nI en ∧ g' 38 2 = nI pe ∧ ∀ j, j < 5 → g' 39 j = nI (A j 0 + 2048 * A j 1)
theorem ev_follow {dp : Nat} {Dm : zv_D} {T : zT} {X : zX} {A : zA} (hC : zC 27 Dm.1 T X A) : ∃ g' o en pe k, zQ Dm.1 g' T X A o en pe k ∧ zv_ev (dp + 6) 3 [.ref 38, .ref 27] zS0 Dm = zo_v (g', Dm.2) := by
  have hT := hC.1
  have hS : ∀ k, za_W T (za_it T X A k) := za_it_W hT hC.2.2.1
  -- the start
  have hF0 : zF 27 39 Dm.1 (zv_w (zv_w (zv_w Dm.1 38 0 2) 38 1 0) 38 2 0) := zF_trans (zF_trans (zF_w _ _ _ (by decide) (by decide)) (zF_w _ _ _ (by decide) (by decide))) (zF_w _ _ _ (by decide) (by decide))
  have hF0' : zF 38 38 Dm.1 (zv_w (zv_w (zv_w Dm.1 38 0 2) 38 1 0) 38 2 0) := zF_trans (zF_trans (zF_w _ _ _ (by decide) (by decide)) (zF_w _ _ _ (by decide) (by decide))) (zF_w _ _ _ (by decide) (by decide))
  have hC0 : zC 27 (zv_w (zv_w (zv_w Dm.1 38 0 2) 38 1 0) 38 2 0) T X A := zC_F hC hF0' (by decide) (by decide)
  obtain ⟨g0, f0, -, n0, r0⟩ := ev_record (dp := dp + 4) (zv_w (zv_w (zv_w Dm.1 38 0 2) 38 1 0) 38 2 0, Dm.2) (r := 0) (by decide)
  dsimp only at f0 n0 r0
  have hst := zd_X0_follow (zv_ev (dp + 5)) Dm.1 Dm.2
  rw [show (0 : Int32) = nI 0 from rfl] at hst
  have r0' : zv_ev (dp + 5) 5 [.ref 38, .ref 27, .int (nI 0)] zS0 (zv_w (zv_w (zv_w Dm.1 38 0 2) 38 1 (nI 0)) 38 2 (nI 0), Dm.2) = zo_v (g0, Dm.2) := r0
  rw [r0'] at hst
  simp only [Option.bind_some] at hst
  have f39 : ∀ (g1 g2 : Nat → Nat → Int32), (∀ x, x ≠ 39 → g2 x = g1 x) → zF 39 39 g1 g2 := fun g1 g2 h x hx => h x (by omega)
  have C0 : zC 27 g0 T X A := zC_F hC0 (f39 _ _ f0) (by decide) (by decide)
  rcases zl_ex (σ := (Nat → Nat → Int32) × Option Value) (fun r s => zv_m zt_X0_follow (zv_ev (dp + 5)) false 23 [some (.ref 38), some (.ref 27), some (.int (nI (r + 1))), s.2] [] zS0 (s.1, Dm.2)) 60 (fun r s => zF 27 39 Dm.1 s.1 ∧ zC 27 s.1 T X (za_it T X A r) ∧ zH s.1 (za_it T X A) (r + 1) ∧ s.1 38 0 = nI 2 ∧ s.1 38 1 = nI 0 ∧ s.1 38 2 = nI 0 ∧ ∀ a b, a < b → b ≤ r → za_it T X A a ≠ za_it T X A b) (fun z => ∃ g' o en pe k, zQ Dm.1 g' T X A o en pe k ∧ z = zv_rv zS0 (g', Dm.2)) (by
    rintro r ⟨s, u⟩ hr ⟨hf, hC', hH, h0, h1, h2, hd⟩
    dsimp only at hf hC' hH h0 h1 h2
    obtain ⟨g1, f1, C1, r1⟩ := ev_stepAll_27 (dp := dp) (Dm := (s, Dm.2)) hC'
    dsimp only at f1 r1
    have C1' : zC 27 g1 T X (za_it T X A (r + 1)) := C1
    have hstep := zd_X0_follow_23 (zv_ev (dp + 5)) s Dm.2 (nI (r + 1)) u
    have cl := za_cn_le T X (za_it T X A r) (zT_n T)
    have n5 := hT.2.1
    rw [if_neg (show ¬ (60 : Int32) < nI (r + 1) from nI_nlt (a := 60) (b := r + 1) (by omega) (by decide)), r1, show nI (r + 1) - 1 = nI r from pk_sub (a := r + 1) (b := 1) (by omega), nI_1] at hstep
    simp only [Option.bind_some] at hstep
    have hf1 : zF 27 39 Dm.1 g1 := zF_trans hf (zF_mono f1 (by decide) (by decide))
    have k38 : g1 38 = s 38 := f1 38 (by decide)
    have k39 : g1 39 = s 39 := f1 39 (by decide)
    by_cases b1 : za_cn T X (za_it T X A r) (zT_n T) = 0
    · rw [if_pos ((zi_0 (by omega)).mpr b1)] at hstep
      have fw : zF 38 38 g1 (zv_w (zv_w g1 38 0 0) 38 1 (nI r)) := zF_trans (zF_w _ _ _ (by decide) (by decide)) (zF_w _ _ _ (by decide) (by decide))
      refine Or.inl ⟨_, 0, r, 0, r + 1, ⟨⟨fun a b hab hb => hd a b hab (by omega), Or.inl ⟨rfl, by omega, by omega, ?_, by omega, rfl⟩⟩, zF_trans hf1 (zF_mono fw (by decide) (by decide)), zC_F C1' fw (by decide) (by decide), ?_, ?_, ?_, fun j hj => ?_⟩, hstep⟩
      · rw [Nat.add_sub_cancel]
        exact (za_rd_same hT (hS r)).mp b1
      · rw [zw_other _ _ _ (by decide), zw_same]; rfl
      · rw [zw_same]
      · rw [zw_other _ _ _ (by decide), zw_other _ _ _ (by decide), k38]; exact h2
      · rw [zw_cell _ _ _ (by decide), zw_cell _ _ _ (by decide), k39]
        have := hH 0 j (by omega) hj
        rw [Nat.mul_zero, Nat.zero_add] at this
        exact this
    rw [if_neg (fun z => b1 ((zi_0 (by omega)).mp z))] at hstep
    obtain ⟨g2, f2, o2, n2, r2⟩ := ev_record (dp := dp + 4) (g1, Dm.2) (r := r + 1) (by omega)
    dsimp only at f2 o2 n2 r2
    rw [r2] at hstep
    simp only [Option.bind_some] at hstep
    have C2 : zC 27 g2 T X (za_it T X A (r + 1)) := zC_F C1' (f39 _ _ f2) (by decide) (by decide)
    have hf2 : zF 27 39 Dm.1 g2 := zF_trans hf1 (zF_mono (f39 _ _ f2) (by decide) (by decide))
    have H2 : zH g2 (za_it T X A) (r + 1 + 1) := by
      intro a j ha hj
      by_cases har : a = r + 1
      · subst har
        rw [n2 j hj]
        exact C1'.2.2.2.2.1.2.2.1 j hj
      · rw [o2 _ (by omega), k39]
        exact hH a j (by omega) hj
    have hne : za_it T X A r ≠ za_it T X A (r + 1) := fun z => b1 ((za_rd_same hT (hS r)).mpr z)
    have k38' : g2 38 = s 38 := (f2 38 (by decide)).trans k38
    rcases ev_earlier (dp := dp + 3) (g2, Dm.2) (S := za_it T X A) (r := r + 1) hT hS (by omega) H2 with ⟨c, c1, c2, c3⟩ | ⟨c1, c3⟩
    · rw [c3] at hstep
      simp only [Option.bind_some] at hstep
      have hcr : c ≠ r := fun z => hne (z ▸ c2)
      rw [if_neg (nI_pos (by omega)), pk_sub (by omega)] at hstep
      have fw : zF 38 38 g2 (zv_w (zv_w (zv_w g2 38 0 1) 38 1 (nI c)) 38 2 (nI (r + 1 - c))) := zF_trans (zF_trans (zF_w _ _ _ (by decide) (by decide)) (zF_w _ _ _ (by decide) (by decide))) (zF_w _ _ _ (by decide) (by decide))
      refine Or.inl ⟨_, 1, c, r + 1 - c, r + 1, ⟨⟨fun a b hab hb => hd a b hab (by omega), Or.inr (Or.inl ⟨rfl, by omega, by omega, c2, rfl⟩)⟩, zF_trans hf2 (zF_mono fw (by decide) (by decide)), zC_F C2 fw (by decide) (by decide), ?_, ?_, ?_, fun j hj => ?_⟩, hstep⟩
      · rw [zw_other _ _ _ (by decide), zw_other _ _ _ (by decide), zw_same]; rfl
      · rw [zw_other _ _ _ (by decide), zw_same]
      · rw [zw_same]
      · rw [zw_cell _ _ _ (by decide), zw_cell _ _ _ (by decide), zw_cell _ _ _ (by decide)]
        have := H2 0 j (by omega) hj
        rw [Nat.mul_zero, Nat.zero_add] at this
        exact this
    · rw [c3] at hstep
      simp only [Option.bind_some] at hstep
      rw [if_pos (by decide)] at hstep
      refine Or.inr ⟨(g2, _), ⟨hf2, C2, H2, ?_, ?_, ?_, fun a b hab hb => ?_⟩, hstep⟩
      · show g2 38 0 = _; rw [k38']; exact h0
      · show g2 38 1 = _; rw [k38']; exact h1
      · show g2 38 2 = _; rw [k38']; exact h2
      · by_cases hbr : b = r + 1
        · subst hbr; exact c1 a hab
        · exact hd a b hab (by omega)) (g0, none) ⟨zF_trans hF0 (zF_mono (f39 _ _ f0) (by decide) (by decide)), C0, fun a j ha hj => by
        have e : a = 0 := by omega
        subst e
        dsimp only
        rw [n0 j hj]
        exact hC0.2.2.2.2.1.2.2.1 j hj, by
        show g0 38 0 = _
        rw [f0 38 (by decide), zw_other _ _ _ (by decide), zw_other _ _ _ (by decide), zw_same]; rfl, by
        show g0 38 1 = _
        rw [f0 38 (by decide), zw_other _ _ _ (by decide), zw_same]; rfl, by
        show g0 38 2 = _
        rw [f0 38 (by decide), zw_same]; rfl, fun a b hab hb => absurd hb (by omega)⟩ with ⟨g', o, en, pe, k, q1, q2⟩ | ⟨⟨g', u⟩, ⟨a1, a2, a3, a4, a5, a6, a7⟩, q2⟩
  · exact ⟨g', o, en, pe, k, q1, zs_X0_follow (hst.trans q2)⟩
  · dsimp only at a1 a2 a3 a4 a5 a6
    refine ⟨g', 2, 0, 0, 60, ⟨⟨fun a b hab hb => a7 a b hab (by omega), Or.inr (Or.inr ⟨rfl, rfl, rfl, rfl, fun a ha => a7 a 60 ha (Nat.le_refl _)⟩)⟩, a1, a2, a4, a5, a6, fun j hj => ?_⟩, zs_X0_follow (hst.trans (q2.trans ?_))⟩
    · have := a3 0 j (by omega) hj
      rw [Nat.mul_zero, Nat.zero_add] at this
      exact this
    · show zv_m zt_X0_follow (zv_ev (dp + 5)) false 23 [some (.ref 38), some (.ref 27), some (.int (nI 61)), u] [] zS0 (g', Dm.2) = _
      rw [zd_X0_follow_23, if_pos (by decide)]
