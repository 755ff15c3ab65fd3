/-! ===== how a run ends, as a function ===== -/
noncomputable def zo (T : zT) (X : zX) (A : zA) : Nat × Nat × Nat × Nat := Classical.epsilon fun p : Nat × Nat × Nat × Nat => zR (za_it T X A) p.1 p.2.1 p.2.2.1 p.2.2.2
theorem zo_eq {T : zT} {X : zX} {A : zA} {o en pe k : Nat} (h : zR (za_it T X A) o en pe k) : zo T X A = (o, en, pe, k) := by
  have hs := Classical.epsilon_spec (p := fun p : Nat × Nat × Nat × Nat => zR (za_it T X A) p.1 p.2.1 p.2.2.1 p.2.2.2) ⟨(o, en, pe, k), h⟩
  obtain ⟨h1, h2, h3, h4⟩ := zR_one hs h
  exact Prod.ext h1 (Prod.ext h2 (Prod.ext h3 h4))
/-- the choices at its end -/
noncomputable def zoA (T : zT) (X : zX) (A : zA) : zA := za_it T X A (zo T X A).2.2.2
def zo_f (T : zT) (X : zX) (A : zA) : Prop := (zo T X A).1 ≤ 2 ∧ (zo T X A).2.1 ≤ 60 ∧ (zo T X A).2.2.1 ≤ 60
theorem zo_fin {T : zT} {X : zX} {A : zA} {o en pe k : Nat} (h : zR (za_it T X A) o en pe k) : zo_f T X A := by
  unfold zo_f
  rw [zo_eq h]
  dsimp only
  have := h.2
  omega
theorem ev_followZ {dp : Nat} {Dm : zv_D} {T : zT} {X : zX} {A : zA} (hC : zC 27 Dm.1 T X A) : ∃ g', zF 27 39 Dm.1 g' ∧ zC 27 g' T X (zoA T X A) ∧ g' 38 0 = nI (zo T X A).1 ∧ g' 38 1 = nI (zo T X A).2.1 ∧ g' 38 2 = nI (zo T X A).2.2.1 ∧ (∀ j, j < 5 → g' 39 j = nI (A j 0 + 2048 * A j 1)) ∧ zo_f T X A ∧ zv_ev (dp + 6) 3 [.ref 38, .ref 27] zS0 Dm = zo_v (g', Dm.2) := by
  obtain ⟨g', o, en, pe, k, ⟨q1, q2, q3, q4, q5, q6, q7⟩, r⟩ := ev_follow (dp := dp) (Dm := Dm) hC
  have e := zo_eq q1
  refine ⟨g', q2, ?_, ?_, ?_, ?_, q7, zo_fin q1, r⟩
  · unfold zoA; rw [e]; exact q3
  · rw [e]; exact q4
  · rw [e]; exact q5
  · rw [e]; exact q6
theorem zC_0 {q : Nat} {g g' : Nat → Nat → Int32} {T : zT} {X : zX} {A : zA} (h : zC q g T X A) (hf : ∀ x, x ≠ q + 4 → g' x = g x) (h0 : ∀ k, k < 5 → g' (q + 4) k = 0) (hq : 15 < q) : zC q g' T X zA_0 := ⟨h.1, h.2.1, zA_0_W T, zC_T_of h.2.2.2.1 (fun c h1 h2 => hf c (by omega)), zC_X_put (c := q + 1) h.2.2.2.2.1 (hf _ (by omega)) (hf _ (by omega)) (hf _ (by omega)) (fun j hj => h0 j hj), zC_Q_of h.2.2.2.2.2 (fun c h1 h2 => hf c (by omega))⟩
theorem ev_restsAnew {dp : Nat} {Dm : zv_D} {T : zT} {X : zX} {A : zA} (hC : zC 27 Dm.1 T X A) : ∃ g', zF 27 39 Dm.1 g' ∧ zC 27 g' T X (zoA T X zA_0) ∧ zv_ev (dp + 7) 121 [.ref 0] zS0 Dm = zo_i (if (zo T X zA_0).1 = 0 then 1 else 0) (g', Dm.2) := by
  obtain ⟨g1, f1, n1, r1⟩ := ev_forgetChoices_28 (dp := dp + 4) (Dm.1, Dm.2)
  dsimp only at f1 r1
  have C1 : zC 27 g1 T X zA_0 := zC_0 hC f1 n1 (by decide)
  obtain ⟨g2, f2, C2, o2, -, -, -, fi, r2⟩ := ev_followZ (dp := dp) (Dm := (g1, Dm.2)) C1
  dsimp only at f2 r2
  have hst := zd_X8_restsAnew (zv_ev (dp + 6)) Dm.1 Dm.2
  rw [r1] at hst
  simp only [Option.bind_some] at hst
  rw [r2] at hst
  simp only [Option.bind_some] at hst
  rw [o2] at hst
  have f31 : zF 27 39 Dm.1 g1 := fun x hx => f1 x (by omega)
  refine ⟨g2, zF_trans f31 f2, C2, zs_X8_restsAnew (hst.trans ?_)⟩
  have l := fi.1
  by_cases h0 : (zo T X zA_0).1 = 0
  · rw [if_pos ((zi_0 (by omega)).mpr h0), if_pos h0]
  · rw [if_neg (fun z => h0 ((zi_0 (by omega)).mp z)), if_neg h0]
/-! the reference -/
theorem ev_runOnZ {dp : Nat} {Dm : zv_D} {T : zT} {X : zX} {A : zA} (hT : zT_ok T) (hX : zX_ok T X) (hW : za_W T A) (hR : zM_R (Dm.1 121) T X A) : ∃ g', zP Dm.1 g' ∧ zM_R (g' 121) T X (zoA T X A) ∧ g' 116 24 = nI (zo T X A).1 ∧ ((zo T X A).1 = 2 → g' 116 25 = -9 ∧ g' 116 26 = -9) ∧ ((zo T X A).1 ≠ 2 → g' 116 25 = nI (zo T X A).2.1 ∧ g' 116 26 = nI (zo T X A).2.2.1) ∧ zo_f T X A ∧ zv_ev (dp + 7) 188 [.ref 116, .ref 121] zS0 Dm = zo_v (g', Dm.2) := by
  obtain ⟨g', o, en, pe, k, ⟨q1, q2, q3, q4, q5, q6, q7⟩, r⟩ := ev_runOn (dp := dp) (Dm := Dm) hT hX hW hR
  have e := zo_eq q1
  refine ⟨g', q2, ?_, ?_, ?_, ?_, zo_fin q1, r⟩
  · unfold zoA; rw [e]; exact q3
  · rw [e]; exact q5
  · rw [e]; exact q6
  · rw [e]; exact q7
def zX_2 (X : zX) (u v : Nat) : zX := zX_se (zX_su X u) v
theorem zN_work {g g' : Nat → Nat → Int32} (h : ∀ x, x ≠ 121 → g' x = g x) : zN g g' := zN_c (fun x hx => h x (by omega))
theorem ev_restsM {dp : Nat} {Dm : zv_D} {T : zT} {X : zX} {A : zA} {u v : Nat} (hT : zT_ok T) (hX : zX_ok T X) (hu : u < 2 ^ zT_m T) (hv : v < 2 ^ zT_n T) (hR : zM_R (Dm.1 119) T X A) : ∃ g', zN Dm.1 g' ∧ (∀ x, x = 120 ∨ 133 < x → g' x = Dm.1 x) ∧ zM_R (g' 121) T (zX_2 X u v) (zoA T (zX_2 X u v) zA_0) ∧ zv_ev (dp + 8) 190 [.ref 116, .int (nI u), .int (nI v)] zS0 Dm = zo_i (if (zo T (zX_2 X u v) zA_0).1 = 0 then 1 else 0) (g', Dm.2) := by
  have h4 := hT.2.2.1
  obtain ⟨g1, f1, n1, r1⟩ := ev_lay_121_119 (dp := dp + 6) (Dm.1, Dm.2)
  dsimp only at f1 n1 r1
  obtain ⟨g2, f2, o2, n2, r2⟩ := ev_clear_121 (dp := dp + 6) (g1, Dm.2)
  dsimp only at f2 o2 n2 r2
  have R1 : zM_R (g2 121) T X zA_0 := zM_R_clear hR (fun k hk => (o2 k hk).trans (n1 k (by omega))) n2 h4
  have R2 : zM_R (zv_w (zv_w g2 121 2 (nI u)) 121 3 (nI v) 121) T (zX_2 X u v) zA_0 := zM_R_ex (r := zv_w g2 121 2 (nI u) 121) (zM_R_up R1 (zw_same _ _ _ _) (fun k hk _ => zw_other _ _ _ hk) h4) (zw_same _ _ _ _) (fun k hk _ => zw_other _ _ _ hk) h4
  obtain ⟨g3, p3, R3, o3, -, -, fi, r3⟩ := ev_runOnZ (dp := dp) (Dm := (zv_w (zv_w g2 121 2 (nI u)) 121 3 (nI v), Dm.2)) (X := zX_2 X u v) hT (zX_se_ok (zX_su_ok hX hu) hv : zX_ok T (zX_2 X u v)) (zA_0_W T) R2
  dsimp only at p3 r3
  have fr : ∀ x, x ≠ 121 → zv_w (zv_w g2 121 2 (nI u)) 121 3 (nI v) x = Dm.1 x := fun x hx => (zw_cell _ _ _ hx).trans ((zw_cell _ _ _ hx).trans ((f2 x hx).trans (f1 x hx)))
  have hst := zd_X9_rests (zv_ev (dp + 7)) Dm.1 Dm.2 (nI u) (nI v)
  rw [r1] at hst
  simp only [Option.bind_some] at hst
  rw [r2] at hst
  simp only [Option.bind_some] at hst
  rw [r3] at hst
  simp only [Option.bind_some] at hst
  rw [o3] at hst
  refine ⟨g3, zN_trans (zN_work fr) (zN_P p3), fun x hx => (p3.1 x (by omega) (by omega) (by omega) (by omega) (by omega) (by omega) (by omega) (by omega)).trans (fr x (by omega)), R3, zs_X9_rests (hst.trans ?_)⟩
  have l := fi.1
  by_cases h0 : (zo T (zX_2 X u v) zA_0).1 = 0
  · rw [if_pos ((zi_0 (by omega)).mpr h0), if_pos h0]
  · rw [if_neg (fun z => h0 ((zi_0 (by omega)).mp z)), if_neg h0]
/-! run -/
noncomputable def za_rv (T : zT) (X : zX) (A : zA) (w : Nat) : Int32 := if w = 0 then nI (zo T X A).1 else if w = 1 then (if (zo T X A).1 = 2 then -9 else nI (zo T X A).2.1) else if w = 2 then (if (zo T X A).1 = 2 then -9 else nI (zo T X A).2.2.1) else if (zo T X A).1 = 0 then nI (za_rn (zoA T X A) (zT_n T)) else -9
theorem go_run (a b : Int32) : zGo 101 191 [.int a, .int b] := by
  intro Z ok
  have h4 := ok.1.1.2.2.1
  rcases zi_rng (a := a) (n := 1) (by decide) 1 rfl with ⟨ha, hx⟩ | ⟨k, hk, rfl, k1, k2, k3, ha⟩
  · refine ⟨(-2, 0, 0), Z, ok, zCl_q fun g h hB => ⟨g, hB.1, fun _ _ => rfl, zs_X8_run ((zd_X8_run _ g h a b).trans ?_)⟩, zMd_q fun g h hB => ?_⟩
    · rcases hx with hx | ⟨hx, _, hy⟩
      · rw [if_pos hx]
      · rw [if_neg hx, if_pos hy]
    · have hst := zd_X9_run (zv_ev 10) g h a b
      rw [ev_inr (dp := 9) (zv_w g 116 0 0, h) 1 a 1 rfl (by decide), if_neg ha] at hst
      exact ⟨_, zN_0 g, zs_X9_run hst⟩
  rcases zi_rng (a := b) (n := 3) (by decide) 3 rfl with ⟨hb, hx⟩ | ⟨w, hw, rfl, l1, l2, l3, hb⟩
  · refine ⟨(-2, 0, 0), Z, ok, zCl_q fun g h hB => ⟨g, hB.1, fun _ _ => rfl, zs_X8_run ((zd_X8_run _ g h (nI k) b).trans ?_)⟩, zMd_q fun g h hB => ?_⟩
    · rw [if_neg k1, if_neg k3]
      rcases hx with hx | ⟨hx, hy, _⟩
      · rw [if_pos hx]
      · rw [if_neg hx, if_neg hy]
    · have hst := zd_X9_run (zv_ev 10) g h (nI k) b
      rw [ev_inr (dp := 9) (zv_w g 116 0 0, h) 1 (nI k) 1 rfl (by decide), if_pos ha] at hst
      simp only [Option.bind_some] at hst
      rw [if_neg (by decide), ev_inr (dp := 9) (zv_w g 116 0 0, h) 3 b 3 rfl (by decide), if_neg hb] at hst
      exact ⟨_, zN_0 g, zs_X9_run hst⟩
  have hw4 : w = 0 ∨ w = 1 ∨ w = 2 ∨ w = 3 := by omega
  refine ⟨(za_rv Z.1.1 Z.1.2.1 (if k = 1 then zA_0 else Z.1.2.2) w, 0, 0), Z, ok, zCl_t fun g h hB => ?_, zMd_q fun g h hB => ?_⟩
  · obtain ⟨g1, f1, C1, r1⟩ := ev_trial (dp := 8) (Dm := (g, h)) hB.1
    dsimp only at f1 r1
    have fin : ∀ g2 A0, zC 27 g2 Z.1.1 Z.1.2.1 A0 → ∃ g', zF 27 39 g2 g' ∧ ((zv_ev 10 3 [.ref 38, .ref 27] zS0 (g2, h)).bind fun p8 => (if nI w = 0 then zv_ri (p8.2.1 38 0) zS0 p8.2 else (if nI w = 1 then (if (p8.2.1 38 0) = 2 then zv_ri (-9) zS0 p8.2 else zv_ri (p8.2.1 38 1) zS0 p8.2) else (if nI w = 2 then (if (p8.2.1 38 0) = 2 then zv_ri (-9) zS0 p8.2 else zv_ri (p8.2.1 38 2) zS0 p8.2) else (if (p8.2.1 38 0) = 0 then ((zv_ev 10 66 [.ref 27] zS0 p8.2).bind fun p12 => zv_ri p12.1.1 zS0 p12.2) else zv_ri (-9) zS0 p8.2))))) = zv_ri (za_rv Z.1.1 Z.1.2.1 A0 w) zS0 (g', h) := by
      intro g2 A0 C2
      obtain ⟨g3, f3, C3, o3, e3, p3, -, fi, r3⟩ := ev_followZ (dp := 4) (Dm := (g2, h)) C2
      dsimp only at f3 r3
      have l := fi.1
      refine ⟨g3, f3, ?_⟩
      rw [r3]
      simp only [Option.bind_some]
      rw [o3, e3, p3, ev_restNumber (dp := 7) (Dm := (g3, h)) C3]
      simp only [Option.bind_some]
      have e2 : (nI (zo Z.1.1 Z.1.2.1 A0).1 = 2) = ((zo Z.1.1 Z.1.2.1 A0).1 = 2) := propext (zi_eqc 2 2 rfl (by omega) (by decide))
      have e0 : (nI (zo Z.1.1 Z.1.2.1 A0).1 = 0) = ((zo Z.1.1 Z.1.2.1 A0).1 = 0) := propext (zi_0 (by omega))
      unfold za_rv
      rcases hw4 with rfl | rfl | rfl | rfl
      · rfl
      · show (if nI (zo Z.1.1 Z.1.2.1 A0).1 = 2 then _ else _) = zv_ri (if (zo Z.1.1 Z.1.2.1 A0).1 = 2 then _ else _) _ _
        by_cases q : (zo Z.1.1 Z.1.2.1 A0).1 = 2
        · rw [if_pos (e2 ▸ q), if_pos q]
        · rw [if_neg (fun z => q (e2 ▸ z)), if_neg q]
      · show (if nI (zo Z.1.1 Z.1.2.1 A0).1 = 2 then _ else _) = zv_ri (if (zo Z.1.1 Z.1.2.1 A0).1 = 2 then _ else _) _ _
        by_cases q : (zo Z.1.1 Z.1.2.1 A0).1 = 2
        · rw [if_pos (e2 ▸ q), if_pos q]
        · rw [if_neg (fun z => q (e2 ▸ z)), if_neg q]
      · show (if nI (zo Z.1.1 Z.1.2.1 A0).1 = 0 then _ else _) = zv_ri (if (zo Z.1.1 Z.1.2.1 A0).1 = 0 then _ else _) _ _
        by_cases q : (zo Z.1.1 Z.1.2.1 A0).1 = 0
        · rw [if_pos (e0 ▸ q), if_pos q]
        · rw [if_neg (fun z => q (e0 ▸ z)), if_neg q]
    have hst := zd_X8_run (zv_ev 10) g h (nI k) (nI w)
    rw [if_neg k1, if_neg k3, if_neg l1, if_pos l2, r1] at hst
    simp only [Option.bind_some] at hst
    by_cases hk1 : k = 1
    · rw [if_pos (show nI k = 1 by rw [hk1]; rfl)] at hst
      obtain ⟨g2, f2, n2, r2⟩ := ev_forgetChoices_28 (dp := 8) (g1, h)
      dsimp only at f2 r2
      rw [r2] at hst
      simp only [Option.bind_some] at hst
      obtain ⟨g3, f3, r3⟩ := fin g2 zA_0 (zC_0 C1 f2 n2 (by decide))
      rw [if_pos hk1]
      exact ⟨g3, zF_trans (zF_mono f1 (by decide) (by decide)) (zF_trans (fun x hx => f2 x (by omega)) (zF_mono f3 (by decide) (by decide))), zs_X8_run (hst.trans r3)⟩
    · rw [if_neg (fun z => hk1 ((zi_eqc 1 1 rfl (by omega) (by decide)).mp z))] at hst
      obtain ⟨g3, f3, r3⟩ := fin g1 Z.1.2.2 C1
      rw [if_neg hk1]
      exact ⟨g3, zF_trans (zF_mono f1 (by decide) (by decide)) (zF_mono f3 (by decide) (by decide)), zs_X8_run (hst.trans r3)⟩
  · obtain ⟨g1, f1, n1, r1⟩ := ev_lay_121_119 (dp := 9) (zv_w g 116 0 0, h)
    dsimp only at f1 n1 r1
    have R1 : zM_R (g1 121) Z.1.1 Z.1.2.1 Z.1.2.2 := zM_R_of (zBM_0 hB).1 n1 h4
    have fin : ∀ g2 A0, za_W Z.1.1 A0 → zM_R (g2 121) Z.1.1 Z.1.2.1 A0 → ∃ g', zP g2 g' ∧ ((zv_ev 10 188 [.ref 116, .ref 121] zS0 (g2, h)).bind fun p8 => (if nI w = 0 then zv_ri (p8.2.1 116 24) zS0 p8.2 else (if nI w = 1 then zv_ri (p8.2.1 116 25) zS0 p8.2 else (if nI w = 2 then zv_ri (p8.2.1 116 26) zS0 p8.2 else (if (p8.2.1 116 24) = 0 then ((zv_ev 10 189 [.ref 121] zS0 p8.2).bind fun p10 => zv_ri p10.1.1 zS0 p10.2) else zv_ri (-9) zS0 p8.2))))) = zv_ri (za_rv Z.1.1 Z.1.2.1 A0 w) zS0 (g', h) := by
      intro g2 A0 W2 R2
      obtain ⟨g3, p3, R3, o3, x3, y3, fi, r3⟩ := ev_runOnZ (dp := 3) (Dm := (g2, h)) ok.1.1 ok.1.2.1 W2 R2
      dsimp only at p3 r3
      have l := fi.1
      refine ⟨g3, p3, ?_⟩
      rw [r3]
      simp only [Option.bind_some]
      rw [o3, ev_told (dp := 8) (Dm := (g3, h)) ok.1.1 R3]
      simp only [Option.bind_some]
      unfold za_rv
      rcases hw4 with rfl | rfl | rfl | rfl
      · rfl
      · show zv_ri (g3 116 25) _ _ = zv_ri (if (zo Z.1.1 Z.1.2.1 A0).1 = 2 then _ else _) _ _
        by_cases q : (zo Z.1.1 Z.1.2.1 A0).1 = 2
        · rw [if_pos q, (x3 q).1]
        · rw [if_neg q, (y3 q).1]
      · show zv_ri (g3 116 26) _ _ = zv_ri (if (zo Z.1.1 Z.1.2.1 A0).1 = 2 then _ else _) _ _
        by_cases q : (zo Z.1.1 Z.1.2.1 A0).1 = 2
        · rw [if_pos q, (x3 q).2]
        · rw [if_neg q, (y3 q).2]
      · show (if nI (zo Z.1.1 Z.1.2.1 A0).1 = 0 then _ else _) = zv_ri (if (zo Z.1.1 Z.1.2.1 A0).1 = 0 then _ else _) _ _
        by_cases q : (zo Z.1.1 Z.1.2.1 A0).1 = 0
        · rw [if_pos ((zi_0 (by omega)).mpr q), if_pos q]
        · rw [if_neg (fun z => q ((zi_0 (by omega)).mp z)), if_neg q]
    have hst := zd_X9_run (zv_ev 10) g h (nI k) (nI w)
    rw [ev_inr (dp := 9) (zv_w g 116 0 0, h) 1 (nI k) 1 rfl (by decide), if_pos ha] at hst
    simp only [Option.bind_some] at hst
    rw [if_neg (by decide), ev_inr (dp := 9) (zv_w g 116 0 0, h) 3 (nI w) 3 rfl (by decide), if_pos hb] at hst
    simp only [Option.bind_some] at hst
    rw [if_neg (by decide), r1] at hst
    simp only [Option.bind_some] at hst
    by_cases hk1 : k = 1
    · rw [if_pos (show nI k = 1 by rw [hk1]; rfl)] at hst
      obtain ⟨g2, f2, o2, n2, r2⟩ := ev_clear_121 (dp := 9) (g1, h)
      dsimp only at f2 o2 n2 r2
      rw [r2] at hst
      simp only [Option.bind_some] at hst
      obtain ⟨g3, f3, r3⟩ := fin g2 zA_0 (zA_0_W _) (zM_R_clear R1 o2 n2 h4)
      rw [if_pos hk1]
      exact ⟨g3, zN_trans (zN_0 g) (zN_trans (zN_work f1) (zN_trans (zN_work f2) (zN_P f3))), zs_X9_run (hst.trans r3)⟩
    · rw [if_neg (fun z => hk1 ((zi_eqc 1 1 rfl (by omega) (by decide)).mp z))] at hst
      obtain ⟨g3, f3, r3⟩ := fin g1 Z.1.2.2 ok.1.2.2 R1
      rw [if_neg hk1]
      exact ⟨g3, zN_trans (zN_0 g) (zN_trans (zN_work f1) (zN_P f3)), zs_X9_run (hst.trans r3)⟩
