theorem go_mesh (a : Int32) : zGo 99 183 [.int a] := by
  intro Z ok
  have h5 := ok.1.1.2.1
  have h4 := ok.1.1.2.2.1
  have h31 := zi_u31 ok
  refine go_one (a := a) ok (fun g h hB ha => zs_X8_mesh ?_) (fun g h hB ha => zs_X9_mesh ?_) ?_
  · rw [zd_X8_mesh, ev_hrF (dp := 9) hB ha]; rfl
  · rw [zd_X9_mesh, ev_nrF (dp := 8) ok (zBM_0 hB) ha]; rfl
  rintro i hi rfl
  have hs16 : (zf_set (za_nr Z.1.1 Z.1.2.1 i) &&& zX_up Z.1.2.1) < 16 := Nat.lt_of_le_of_lt Nat.and_le_left (zf_set_lt _)
  have hsb : ∀ e, e < 4 → (zf_set (za_nr Z.1.1 Z.1.2.1 i) &&& zX_up Z.1.2.1).testBit e = (za_nr Z.1.1 Z.1.2.1 i e && (zX_up Z.1.2.1).testBit e) := by
    intro e he
    rw [Nat.testBit_and, zf_set_tb]
    simp [he]
  have hnr : ∀ e, za_nr Z.1.1 Z.1.2.1 i e = true → e < zT_m Z.1.1 ∧ za_di (zX_co Z.1.2.1) i (zT_pl Z.1.1 e) < 1000 := by
    intro e h
    unfold za_nr at h
    simpa using h
  have pl4 := za_pk_le Z.1.1 Z.1.2.1 i (zf_set (za_nr Z.1.1 Z.1.2.1 i) &&& zX_up Z.1.2.1)
  refine ⟨(zf_p9 (za_pk Z.1.1 Z.1.2.1 i (zf_set (za_nr Z.1.1 Z.1.2.1 i) &&& zX_up Z.1.2.1)), 0, 0), Z, ok, zCl_q fun g h hB => ?_, zMd_q fun g h hB => ?_⟩
  · obtain ⟨g1, f1, Q1, r1⟩ := ev_pick_16 (dp := 7) (Dm := (g, h)) (i := i) hB.1 (by omega) hs16 (fun e he hb => by
      rw [hsb e he, Bool.and_eq_true] at hb
      exact (hnr e hb.1).1)
    dsimp only at f1 r1
    have hst := zd_X8_mesh (zv_ev 10) g h (nI i)
    rw [ev_hrT (dp := 9) hB hi] at hst
    simp only [Option.bind_some] at hst
    have fl := zf_set_lt (za_nr Z.1.1 Z.1.2.1 i)
    rw [if_neg (by decide), zi_in (n := 5) (by omega) (by decide), nI_clamp (by omega), show g 21 i = nI (zf_set (za_nr Z.1.1 Z.1.2.1 i)) from hB.1.2.2.2.2.2.2.1 i (by omega), show g 17 3 = nI (zX_up Z.1.2.1) from hB.1.2.2.2.2.1.2.2.2.1, zi_and (by omega) (by omega), r1, cond_true] at hst
    simp only [Option.bind_some] at hst
    refine ⟨g1, zC_9_16 hB.1 (fun x h1 h2 _ _ => f1 x h1 h2) Q1, fun x hx => f1 x (by omega) (by omega), zs_X8_mesh (hst.trans ?_)⟩
    unfold zf_p9
    by_cases hp : za_pk Z.1.1 Z.1.2.1 i (zf_set (za_nr Z.1.1 Z.1.2.1 i) &&& zX_up Z.1.2.1) = 4
    · rw [hp, zf_pi_4, if_pos rfl, if_pos rfl]
    · rw [zf_pi_in (by omega), if_neg (zi_ne1 (by omega)), if_neg hp]
  · have hB0 := zBM_0 hB
    obtain ⟨g2, f2, K2, r2⟩ := ev_layCosts_119 (dp := 8) (Dm := (zv_w g 116 0 0, h)) (T := Z.1.1) (X := Z.1.2.1) (A := Z.1.2.2) ok.1.1 ok.1.2.1 hB0.1
    dsimp only at f2 r2
    have R2 : zM_R (g2 119) Z.1.1 Z.1.2.1 Z.1.2.2 := zMR_page (g := zv_w g 116 0 0) hB0.1 (f2 119 (by decide))
    have hst := zd_X9_mesh (zv_ev 10) g h (nI i)
    rw [ev_nrT (dp := 8) ok hB0 hi] at hst
    simp only [Option.bind_some] at hst
    rw [if_pos trivial, r2] at hst
    obtain ⟨⟨g3, u3⟩, ⟨f3, n3⟩, q3⟩ := zl_up (σ := (Nat → Nat → Int32) × Option Value) (fun k s => zv_m zt_X9_mesh (zv_ev 10) false 25 [some (.ref 116), some (.int (nI i)), some (.int (nI k)), s.2] [] zS0 (s.1, h)) 4 (fun k s => (∀ x, x ≠ 129 → s.1 x = g2 x) ∧ ∀ e, e < k → s.1 129 e = if (za_nr Z.1.1 Z.1.2.1 i e && (zX_up Z.1.2.1).testBit e) = true then nI (zT_pl Z.1.1 e) else -9) (by
      rintro k ⟨s, u⟩ hk ⟨hf, hn⟩
      dsimp only at hf hn
      have e1 := zd_X9_mesh_25 (zv_ev 10) s h (nI i) (nI k) u
      have R3 : zM_R (s 119) Z.1.1 Z.1.2.1 Z.1.2.2 := zMR_page (g := g2) R2 (hf 119 (by decide))
      rw [if_neg (zi_ge 4 4 rfl hk (by decide)), R3.2.1, R3.2.2.1, zi_in hk (by decide), nI_clamp (by omega), nI_1, zi_has (dp := 9) (s, h) (by omega) (by omega)] at e1
      simp only [Option.bind_some, cond_true] at e1
      have put : ∀ v : Int32, v = (if (za_nr Z.1.1 Z.1.2.1 i k && (zX_up Z.1.2.1).testBit k) = true then nI (zT_pl Z.1.1 k) else -9) → (∀ x, x ≠ 129 → zv_w s 129 k v x = g2 x) ∧ ∀ e, e < k + 1 → zv_w s 129 k v 129 e = if (za_nr Z.1.1 Z.1.2.1 i e && (zX_up Z.1.2.1).testBit e) = true then nI (zT_pl Z.1.1 e) else -9 := by
        intro v hv
        refine ⟨fun x hx => (zw_cell _ _ _ hx).trans (hf x hx), fun e he => ?_⟩
        by_cases hek : e = k
        · subst hek; rw [zw_same]; exact hv
        · rw [zw_other _ _ _ hek]; exact hn e (by omega)
      by_cases hm : zT_m Z.1.1 ≤ k
      · rw [if_pos (nI_le hm (by omega))] at e1
        refine ⟨(_, _), put (-9) ?_, e1⟩
        rw [if_neg (fun q => ?_)]
        rw [Bool.and_eq_true] at q
        have := (hnr k q.1).1
        omega
      · rw [if_neg (fun z => hm ((nI_leI (by omega) (by omega)).mp z))] at e1
        have hpl : zT_pl Z.1.1 k < zT_n Z.1.1 := ok.1.1.2.2.2.2.2.2.2.1 k (by omega)
        by_cases hu : (zX_up Z.1.2.1).testBit k = true
        · rw [if_pos hu, if_neg (show ¬ (1 : Int32) = 0 by decide), show (Value.int 0) = Value.int (nI 0) from rfl, ev_mexitOf_119 (dp := 9) (s, h) (w := 0) hk (by decide)] at e1
          simp only [Option.bind_some] at e1
          rw [(R3.2.2.2.2.2.2.2.1 k (by omega)).1, zx_5, zi_in (n := 25) (by omega) (by decide), nI_clamp (by omega), hf 128 (by decide), K2 i _ hi hpl, cond_true] at e1
          by_cases hd : za_di (zX_co Z.1.2.1) i (zT_pl Z.1.1 k) < 1000
          · have hdf : nI (za_di (zX_co Z.1.2.1) i (zT_pl Z.1.1 k)) ≠ -9 := zi_ne9 (by omega)
            rw [if_pos hd, if_neg hdf, ev_mexitOf_119 (dp := 9) (s, h) (w := 0) hk (by decide)] at e1
            simp only [Option.bind_some] at e1
            rw [(R3.2.2.2.2.2.2.2.1 k (by omega)).1] at e1
            refine ⟨(_, _), put (nI (zT_pl Z.1.1 k)) ?_, e1⟩
            have hk' : k < zT_m Z.1.1 := by omega
            rw [if_pos]
            simp [za_nr, hk', hd, hu]
          · rw [if_neg hd, if_pos rfl] at e1
            refine ⟨(_, _), put (-9) ?_, e1⟩
            rw [if_neg (fun q => ?_)]
            rw [Bool.and_eq_true] at q
            exact hd (hnr k q.1).2
        · rw [if_neg hu, if_pos rfl] at e1
          refine ⟨(_, _), put (-9) ?_, e1⟩
          rw [if_neg (fun q => ?_)]
          rw [Bool.and_eq_true] at q
          exact hu q.2) (g2, none) ⟨fun _ _ => rfl, fun e he => absurd he (Nat.not_lt_zero e)⟩
    dsimp only at f3 n3 q3
    have e2 := zd_X9_mesh_25 (zv_ev 10) g3 h (nI i) (nI 4) u3
    have hset : za_set (fun e => if (za_nr Z.1.1 Z.1.2.1 i e && (zX_up Z.1.2.1).testBit e) = true then 1 else 0) = zf_set (za_nr Z.1.1 Z.1.2.1 i) &&& zX_up Z.1.2.1 := by
      refine zs_ext (za_set_lt _) hs16 fun e he => ?_
      rw [za_set_tb he, hsb e he]
      cases (za_nr Z.1.1 Z.1.2.1 i e && (zX_up Z.1.2.1).testBit e) <;> simp
    rw [if_pos (by decide), ev_gathered (dp := 9) (Dm := (g3, h)) (off := fun e => if (za_nr Z.1.1 Z.1.2.1 i e && (zX_up Z.1.2.1).testBit e) = true then 1 else 0) (fun e he => by
      show g3 129 e = -9 ↔ _
      have hp5 := ok.1.1.2.2.2.2.2.2.1 e
      rw [n3 e he]
      by_cases q : (za_nr Z.1.1 Z.1.2.1 i e && (zX_up Z.1.2.1).testBit e) = true
      · rw [if_pos q, if_pos q]
        exact ⟨fun z => absurd z (zi_ne9 (by omega)), fun z => absurd z (by decide)⟩
      · rw [if_neg q, if_neg q]
        exact ⟨fun _ => rfl, fun _ => rfl⟩), hset] at e2
    simp only [Option.bind_some] at e2
    have R4 : zM_R (g3 119) Z.1.1 Z.1.2.1 Z.1.2.2 := zMR_page (g := g2) R2 (f3 119 (by decide))
    have K4 : zM_K g3 Z.1.1 Z.1.2.1 := fun i j hi hj => (congrFun (f3 128 (by decide)) _).trans (K2 i j hi hj)
    rw [ev_best_119 (dp := 6) (Dm := (g3, h)) (T := Z.1.1) (X := Z.1.2.1) (A := Z.1.2.2) ok.1.1 ok.1.2.1 R4 K4 hi hs16 (fun e he hb => by
      have hp5 := ok.1.1.2.2.2.2.2.2.1 e
      rw [hsb e he] at hb
      have hb' := hb
      rw [Bool.and_eq_true] at hb'
      obtain ⟨q1, q2⟩ := hnr e hb'.1
      refine ⟨q1, q2, ?_⟩
      show g3 129 e = nI i ↔ _
      rw [n3 e he, if_pos hb]
      exact nI_eq (by omega) (by omega))] at e2
    exact ⟨g3, zN_trans (zN_0 g) (zN_c (fun x hx => (f3 x (by omega)).trans (f2 x (by omega)))), zs_X9_mesh (hst.trans (q3.trans e2))⟩
/-! ===== figures ===== -/
def zj (w : Nat → Nat) (q : Nat) : Nat := if w q = 0 then 0 else 1
def zj_c (w : Nat → Nat) : Nat → Nat
  | 0 => 0
  | k + 1 => zj_c w k + zj w k
def zj_r (w : Nat → Nat) (i : Nat) : Nat → Nat
  | 0 => 0
  | k + 1 => zj_r w i k + zj w (5 * i + k)
def zj_j (w : Nat → Nat) : Nat → Nat
  | 0 => 0
  | k + 1 => zj_j w k + zj_r w k k
theorem zj_c_le (w : Nat → Nat) : ∀ k, zj_c w k ≤ k := by
  intro k
  induction k with
  | zero => exact Nat.le_refl _
  | succ k ih =>
    show zj_c w k + (if w k = 0 then 0 else 1) ≤ _
    split <;> omega
theorem zj_same {w : Nat → Nat} {n : Nat} (hn : n ≤ 5) (h0 : ∀ i j, i < 5 → j < 5 → (n ≤ i ∨ n ≤ j ∨ i = j) → w (5 * i + j) = 0) (h1 : ∀ i j, i < 5 → j < 5 → (w (5 * i + j) = 0 ↔ w (5 * j + i) = 0)) : zj_c w 25 / 2 = zj_j w n := by
  have s : ∀ i j, i < 5 → j < 5 → zj w (5 * i + j) = zj w (5 * j + i) := by
    intro i j hi hj
    unfold zj
    have := h1 i j hi hj
    by_cases q : w (5 * i + j) = 0
    · rw [if_pos q, if_pos (this.mp q)]
    · rw [if_neg q, if_neg (fun z => q (this.mpr z))]
  have z : ∀ i j, i < 5 → j < 5 → (n ≤ i ∨ n ≤ j ∨ i = j) → zj w (5 * i + j) = 0 := fun i j hi hj q => if_pos (h0 i j hi hj q)
  have d0 := z 0 0 (by decide) (by decide) (by omega)
  have d1 := z 1 1 (by decide) (by decide) (by omega)
  have d2 := z 2 2 (by decide) (by decide) (by omega)
  have d3 := z 3 3 (by decide) (by decide) (by omega)
  have d4 := z 4 4 (by decide) (by decide) (by omega)
  have s10 := s 1 0 (by decide) (by decide)
  have s20 := s 2 0 (by decide) (by decide)
  have s21 := s 2 1 (by decide) (by decide)
  have s30 := s 3 0 (by decide) (by decide)
  have s31 := s 3 1 (by decide) (by decide)
  have s32 := s 3 2 (by decide) (by decide)
  have s40 := s 4 0 (by decide) (by decide)
  have s41 := s 4 1 (by decide) (by decide)
  have s42 := s 4 2 (by decide) (by decide)
  have s43 := s 4 3 (by decide) (by decide)
  have z1 : n ≤ 1 → zj w 5 = 0 := fun q => z 1 0 (by decide) (by decide) (by omega)
  have z2 : n ≤ 2 → zj w 10 = 0 ∧ zj w 11 = 0 := fun q => ⟨z 2 0 (by decide) (by decide) (by omega), z 2 1 (by decide) (by decide) (by omega)⟩
  have z3 : n ≤ 3 → zj w 15 = 0 ∧ zj w 16 = 0 ∧ zj w 17 = 0 := fun q => ⟨z 3 0 (by decide) (by decide) (by omega), z 3 1 (by decide) (by decide) (by omega), z 3 2 (by decide) (by decide) (by omega)⟩
  have z4 : n ≤ 4 → zj w 20 = 0 ∧ zj w 21 = 0 ∧ zj w 22 = 0 ∧ zj w 23 = 0 := fun q => ⟨z 4 0 (by decide) (by decide) (by omega), z 4 1 (by decide) (by decide) (by omega), z 4 2 (by decide) (by decide) (by omega), z 4 3 (by decide) (by decide) (by omega)⟩
  have hc : n = 0 ∨ n = 1 ∨ n = 2 ∨ n = 3 ∨ n = 4 ∨ n = 5 := by omega
  simp only [Nat.reduceMul, Nat.reduceAdd] at d0 d1 d2 d3 d4 s10 s20 s21 s30 s31 s32 s40 s41 s42 s43
  have z0 : n = 0 → zj w 5 = 0 := fun q => z 1 0 (by decide) (by decide) (by omega)
  rcases hc with rfl | rfl | rfl | rfl | rfl | rfl <;> simp [zj_c, zj_j, zj_r] <;> omega
