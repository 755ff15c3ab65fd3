/-! ===== acts of both sides ===== -/
def zZp (Z : zZ) : zZ := (Z.1, Z.2.1, zPu (Z.1.2.1, Z.1.2.2) Z.2.2.1, Z.2.2.2)
def zZa (Z : zZ) (X : zX) (A : zA) : zZ := ((Z.1.1, X, A), Z.2)
theorem zOK_p {Z : zZ} (h : zOK Z) {X : zX} {A : zA} (hX : zX_ok Z.1.1 X) (hW : za_W Z.1.1 A) : zOK (zZa (zZp Z) X A) := ⟨⟨h.1.1, hX, hW⟩, h.2.1, zPu_ok h, h.2.2.2⟩
section S
variable {dp : Nat} {g : Nat → Nat → Int32} {h : Nat → Nat → Int64} {Z : zZ}
theorem zB_n (hB : zBC g h Z) : g 9 0 = nI (zT_n Z.1.1) := hB.1.2.2.2.1.1
theorem zB_m (hB : zBC g h Z) : g 9 1 = nI (zT_m Z.1.1) := hB.1.2.2.2.1.2.1
theorem ev_hrF (hB : zBC g h Z) {a : Int32} (ha : zv_in a (zT_n Z.1.1) = false) : zv_ev (dp + 1) 22 [.ref 9, .int a] zS0 (g, h) = zo_i 0 (g, h) := by
  rw [ev_hasRouter (g, h) a (zB_n hB) hB.1.1.2.1, ha]; rfl
theorem ev_hrT (hB : zBC g h Z) {i : Nat} (hi : i < zT_n Z.1.1) : zv_ev (dp + 1) 22 [.ref 9, .int (nI i)] zS0 (g, h) = zo_i 1 (g, h) := by
  have h5 := hB.1.1.2.1
  rw [ev_hasRouter (g, h) (nI i) (zB_n hB) h5, zi_in hi (by omega)]; rfl
theorem ev_heF (hB : zBC g h Z) {a : Int32} (ha : zv_in a (zT_m Z.1.1) = false) : zv_ev (dp + 1) 23 [.ref 9, .int a] zS0 (g, h) = zo_i 0 (g, h) := by
  rw [ev_hasExit (g, h) a (zB_m hB) hB.1.1.2.2.1, ha]; rfl
theorem ev_heT (hB : zBC g h Z) {i : Nat} (hi : i < zT_m Z.1.1) : zv_ev (dp + 1) 23 [.ref 9, .int (nI i)] zS0 (g, h) = zo_i 1 (g, h) := by
  have h5 := hB.1.1.2.2.1
  rw [ev_hasExit (g, h) (nI i) (zB_m hB) h5, zi_in hi (by omega)]; rfl
theorem ev_nrF (ok : zOK Z) (hB : zBM g h Z) {a : Int32} (ha : zv_in a (zT_n Z.1.1) = false) : zv_ev (dp + 2) 135 [.ref 116, .int a] zS0 (g, h) = zo_i 1 (g, h) := by
  rw [ev_noRouter (g, h) a hB.1.1 ok.1.1.2.1, ha]; rfl
theorem ev_nrT (ok : zOK Z) (hB : zBM g h Z) {i : Nat} (hi : i < zT_n Z.1.1) : zv_ev (dp + 2) 135 [.ref 116, .int (nI i)] zS0 (g, h) = zo_i 0 (g, h) := by
  have h5 := ok.1.1.2.1
  rw [ev_noRouter (g, h) (nI i) hB.1.1 h5, zi_in hi (by omega)]; rfl
theorem ev_neF (ok : zOK Z) (hB : zBM g h Z) {a : Int32} (ha : zv_in a (zT_m Z.1.1) = false) : zv_ev (dp + 2) 136 [.ref 116, .int a] zS0 (g, h) = zo_i 1 (g, h) := by
  have h4 := ok.1.1.2.2.1
  rw [ev_noExit (g, h) a hB.1.2.1 (by omega), ha]; rfl
theorem ev_neT (ok : zOK Z) (hB : zBM g h Z) {i : Nat} (hi : i < zT_m Z.1.1) : zv_ev (dp + 2) 136 [.ref 116, .int (nI i)] zS0 (g, h) = zo_i 0 (g, h) := by
  have h5 := ok.1.1.2.2.1
  rw [ev_noExit (g, h) (nI i) hB.1.2.1 (by omega), zi_in hi (by omega)]; rfl
theorem ev_saveB (ok : zOK Z) (hB : zBC g h Z) : ∃ g', zBC g' h (zZp Z) ∧ (∀ x, x < 44 ∨ 101 < x → g' x = g x) ∧ zv_ev (dp + 2) 17 [.ref 44, .ref 17] zS0 (g, h) = zo_v (g', h) := by
  obtain ⟨g', f, b, r⟩ := ev_save (dp := dp) (Dm := (g, h)) hB.1.2.2.2.2.1 hB.2.2.1 ok.2.2.1.1
  dsimp only at f
  have hF : zF 44 101 g g' := fun x hx => f x hx
  exact ⟨g', ⟨zC_F hB.1 hF (by decide) (by decide), zb2_of hB.2.1 (congrFun (f 1 (by decide)) 1) (f 2 (by decide)) (fun x h1 h2 => f x (by omega)), b, zb4_of hB.2.2.2.1 (fun x h1 h2 => f x (by omega)), zb5_of hB.2.2.2.2.1 (fun x h1 h2 => f x (by omega)), hB.2.2.2.2.2⟩, f, r⟩
theorem ev_noteB (ok : zOK Z) (hB : zBM g h Z) : ∃ g', zBM g' h (zZp Z) ∧ (∀ x, x ≠ 116 → x ≠ 122 → g' x = g x) ∧ zv_ev (dp + 1) 170 [.ref 116] zS0 (g, h) = zo_v (g', h) := by
  obtain ⟨g', f, o, b, r⟩ := ev_note (dp := dp) (Dm := (g, h)) ok.1.1 hB.1 hB.2.2.1 ok.2.2.1.1
  dsimp only at f o
  exact ⟨g', ⟨by rw [f 119 (by decide) (by decide)]; exact hB.1, zm2_of hB.2.1 (o 2 (by decide)) (f 117 (by decide) (by decide)), b, zm4_of hB.2.2.2.1 (f 123 (by decide) (by decide)) (f 124 (by decide) (by decide)), zm5_of hB.2.2.2.2.1 (o 13 (by decide)) (fun x h1 h2 => f x (by omega) (by omega)), hB.2.2.2.2.2⟩, f, r⟩
end S
def zNa (g g' : Nat → Nat → Int32) : Prop := (∀ x, x < 116 ∨ x = 117 ∨ (121 < x ∧ x < 128) → g' x = g x) ∧ ∀ q, q = 2 ∨ q = 10 ∨ q = 13 → g' 116 q = g 116 q
theorem zNa_c {g g' : Nat → Nat → Int32} (h : ∀ x, x < 118 ∨ (121 < x ∧ x < 128) → g' x = g x) : zNa g g' := ⟨fun x hx => h x (by omega), fun q _ => congrFun (h 116 (by decide)) q⟩
theorem zNa_trans {g1 g2 g3 : Nat → Nat → Int32} (h1 : zNa g1 g2) (h2 : zNa g2 g3) : zNa g1 g3 := ⟨fun x hx => (h2.1 x hx).trans (h1.1 x hx), fun q hq => (h2.2 q hq).trans (h1.2 q hq)⟩
theorem zBM_a {g g' : Nat → Nat → Int32} {h : Nat → Nat → Int64} {Z : zZ} {X : zX} {A : zA} (hB : zBM g h Z) (hN : zNa g g') (hR : zM_R (g' 119) Z.1.1 X A) : zBM g' h (zZa Z X A) := ⟨hR, zm2_of hB.2.1 (hN.2 2 (by decide)) (hN.1 117 (by decide)), zm3_of hB.2.2.1 (hN.2 10 (by decide)) (hN.1 122 (by decide)), zm4_of hB.2.2.2.1 (hN.1 123 (by decide)) (hN.1 124 (by decide)), zm5_of hB.2.2.2.2.1 (hN.2 13 (by decide)) (fun x h1 h2 => hN.1 x (by omega)), hB.2.2.2.2.2⟩
theorem zMR_page {g g' : Nat → Nat → Int32} {T : zT} {X : zX} {A : zA} {p : Nat} (h : zM_R (g p) T X A) (e : g' p = g p) : zM_R (g' p) T X A := e ▸ h
theorem go_step (a : Int32) : zGo 88 171 [.int a] := by
  intro Z ok
  cases hb : zv_in a (zT_n Z.1.1) with
  | false =>
    refine ⟨(-1, 0, 0), Z, ok, zCl_q fun g h hB => ?_, zMd_q fun g h hB => ?_⟩
    · have hst := zd_X8_step (zv_ev 10) g h a
      rw [ev_hrF (dp := 9) hB hb] at hst
      simp only [Option.bind_some] at hst
      rw [if_pos trivial] at hst
      exact ⟨g, hB.1, fun _ _ => rfl, zs_X8_step hst⟩
    · have hst := zd_X9_step (zv_ev 10) g h a
      rw [ev_nrF (dp := 8) ok (zBM_0 hB) hb] at hst
      simp only [Option.bind_some] at hst
      rw [if_neg (by decide)] at hst
      exact ⟨_, zN_0 g, zs_X9_step hst⟩
  | true =>
    obtain ⟨i, hi, rfl⟩ := zi_of hb
    refine ⟨(if za_ch Z.1.1 Z.1.2.1 Z.1.2.2 i = true then 1 else 0, 0, 0), zZa (zZp Z) Z.1.2.1 (za_st Z.1.1 Z.1.2.1 Z.1.2.2 i), zOK_p ok ok.1.2.1 (za_st_W ok.1.1 ok.1.2.2 hi), fun g h hB => ?_, fun g h hB => ?_⟩
    · obtain ⟨g1, B1, f1, r1⟩ := ev_saveB (dp := 8) ok hB
      obtain ⟨g2, f2, C2, r2⟩ := ev_stepOne_16 (dp := 5) (Dm := (g1, h)) B1.1 hi
      dsimp only at f2 r2
      have hst := zd_X8_step (zv_ev 10) g h (nI i)
      rw [ev_hrT (dp := 9) hB hi] at hst
      simp only [Option.bind_some] at hst
      rw [if_neg (by decide), r1] at hst
      simp only [Option.bind_some] at hst
      have r2' : zv_ev 10 56 [.ref 16, .int (nI i)] zS0 (g1, h) = zo_i (if za_ch Z.1.1 Z.1.2.1 Z.1.2.2 i = true then 1 else 0) (g2, h) := r2
      rw [r2'] at hst
      simp only [Option.bind_some] at hst
      refine ⟨g2, h, zBC_a B1 C2 f2, fun x hx => ⟨(f2 x (by omega)).trans (f1 x (by omega)), rfl⟩, zs_X8_step (hst.trans ?_)⟩
      by_cases hc : za_ch Z.1.1 Z.1.2.1 Z.1.2.2 i = true
      · rw [if_pos hc, if_neg (by decide)]
      · rw [if_neg hc, if_pos rfl]
    · have hB0 := zBM_0 hB
      obtain ⟨g1, B1, f1, r1⟩ := ev_noteB (dp := 9) ok hB0
      obtain ⟨g2, f2, K2, r2⟩ := ev_layCosts_119 (dp := 8) (Dm := (g1, h)) ok.1.1 ok.1.2.1 B1.1
      dsimp only at f2 r2
      obtain ⟨g3, f3, R3, r3⟩ := ev_stepOn_119 (dp := 4) (Dm := (g2, h)) (T := Z.1.1) (X := Z.1.2.1) (A := Z.1.2.2) (i := i) ok.1.1 ok.1.2.1 (zMR_page (g := g1) B1.1 (f2 119 (by decide))) K2 ok.1.2.2 hi
      dsimp only at f3 r3
      have hst := zd_X9_step (zv_ev 10) g h (nI i)
      rw [ev_nrT (dp := 8) ok hB0 hi] at hst
      simp only [Option.bind_some] at hst
      rw [if_pos trivial, r1] at hst
      simp only [Option.bind_some] at hst
      rw [r2] at hst
      simp only [Option.bind_some] at hst
      rw [r3] at hst
      simp only [Option.bind_some] at hst
      have fr : ∀ x, x ≠ 119 → x < 128 → g3 x = g1 x := fun x h1 h2 => (f3 x h1 (by omega) (by omega) (by omega)).trans (f2 x (by omega))
      refine ⟨g3, h, zBM_a B1 (zNa_c (fun x hx => fr x (by omega) (by omega))) R3, fun x hx => ⟨(fr x (by omega) (by omega)).trans ((f1 x (by omega) (by omega)).trans (zw_cell _ _ _ (by omega))), rfl⟩, zs_X9_step (hst.trans ?_)⟩
      by_cases hc : za_ch Z.1.1 Z.1.2.1 Z.1.2.2 i = true
      · rw [if_pos hc, if_neg (by decide)]
      · rw [if_neg hc, if_pos rfl]
theorem go_round : zGo 89 172 [] := by
  intro Z ok
  refine ⟨(nI (za_cn Z.1.1 Z.1.2.1 Z.1.2.2 (zT_n Z.1.1)), 0, 0), zZa (zZp Z) Z.1.2.1 (za_rd Z.1.1 Z.1.2.1 Z.1.2.2), zOK_p ok ok.1.2.1 (za_rd_W ok.1.1 ok.1.2.2), fun g h hB => ?_, fun g h hB => ?_⟩
  · obtain ⟨g1, B1, f1, r1⟩ := ev_saveB (dp := 8) ok hB
    obtain ⟨g2, f2, C2, r2⟩ := ev_stepAll_16 (dp := 5) (Dm := (g1, h)) B1.1
    dsimp only at f2 r2
    have hst := zd_X8_round (zv_ev 10) g h
    rw [r1] at hst
    simp only [Option.bind_some] at hst
    rw [r2] at hst
    exact ⟨g2, h, zBC_a B1 C2 f2, fun x hx => ⟨(f2 x (by omega)).trans (f1 x (by omega)), rfl⟩, zs_X8_round hst⟩
  · have hB0 := zBM_0 hB
    obtain ⟨g1, B1, f1, r1⟩ := ev_noteB (dp := 9) ok hB0
    obtain ⟨g2, f2, K2, r2⟩ := ev_layCosts_119 (dp := 8) (Dm := (g1, h)) ok.1.1 ok.1.2.1 B1.1
    dsimp only at f2 r2
    obtain ⟨g3, f3, R3, r3⟩ := ev_roundOn_119 (dp := 4) (Dm := (g2, h)) (T := Z.1.1) (X := Z.1.2.1) (A := Z.1.2.2) ok.1.1 ok.1.2.1 (zMR_page (g := g1) B1.1 (f2 119 (by decide))) K2 ok.1.2.2
    dsimp only at f3 r3
    have hst := zd_X9_round (zv_ev 10) g h
    rw [r1] at hst
    simp only [Option.bind_some] at hst
    rw [r2] at hst
    simp only [Option.bind_some] at hst
    rw [r3] at hst
    have fr : ∀ x, x ≠ 119 → x < 128 → g3 x = g1 x := fun x h1 h2 => (f3 x h1 (by omega) (by omega) (by omega) (by omega)).trans (f2 x (by omega))
    exact ⟨g3, h, zBM_a B1 (zNa_c (fun x hx => fr x (by omega) (by omega))) R3, fun x hx => ⟨(fr x (by omega) (by omega)).trans ((f1 x (by omega) (by omega)).trans (zw_cell _ _ _ (by omega))), rfl⟩, zs_X9_round hst⟩
/-! pages changed at a place -/
theorem zM_R_up {r r' : Nat → Int32} {T : zT} {X : zX} {A : zA} {v : Nat} (h : zM_R r T X A) (h2 : r' 2 = nI v) (h1 : ∀ k, k ≠ 2 → k < 101 → r' k = r k) (hm : zT_m T ≤ 4) : zM_R r' T (zX_su X v) A := by
  unfold zM_R at h ⊢
  rw [h1 0 (by decide) (by decide), h1 1 (by decide) (by decide), h1 3 (by decide) (by decide), h1 4 (by decide) (by decide)]
  refine ⟨h.1, h.2.1, h2, h.2.2.2.1, h.2.2.2.2.1, fun k hk => ?_, fun k hk => ?_, fun e he => ?_, fun j k hj hk => ?_⟩
  · rw [h1 _ (by omega) (by omega)]; exact h.2.2.2.2.2.1 k hk
  · rw [h1 _ (by omega) (by omega)]; exact h.2.2.2.2.2.2.1 k hk
  · rw [h1 _ (by omega) (by omega), h1 _ (by omega) (by omega), h1 _ (by omega) (by omega), h1 _ (by omega) (by omega)]; exact h.2.2.2.2.2.2.2.1 e he
  · rw [h1 _ (by omega) (by omega), h1 _ (by omega) (by omega), h1 _ (by omega) (by omega)]; exact h.2.2.2.2.2.2.2.2 j k hj hk
theorem zM_R_mo {r r' : Nat → Int32} {T : zT} {X : zX} {A : zA} {v : Nat} (h : zM_R r T X A) (h2 : r' 4 = nI v) (h1 : ∀ k, k ≠ 4 → k < 101 → r' k = r k) (hm : zT_m T ≤ 4) : zM_R r' T (zX_sm X v) A := by
  unfold zM_R at h ⊢
  rw [h1 0 (by decide) (by decide), h1 1 (by decide) (by decide), h1 3 (by decide) (by decide), h1 2 (by decide) (by decide)]
  refine ⟨h.1, h.2.1, h.2.2.1, h.2.2.2.1, h2, fun k hk => ?_, fun k hk => ?_, fun e he => ?_, fun j k hj hk => ?_⟩
  · rw [h1 _ (by omega) (by omega)]; exact h.2.2.2.2.2.1 k hk
  · rw [h1 _ (by omega) (by omega)]; exact h.2.2.2.2.2.2.1 k hk
  · rw [h1 _ (by omega) (by omega), h1 _ (by omega) (by omega), h1 _ (by omega) (by omega), h1 _ (by omega) (by omega)]; exact h.2.2.2.2.2.2.2.1 e he
  · rw [h1 _ (by omega) (by omega), h1 _ (by omega) (by omega), h1 _ (by omega) (by omega)]; exact h.2.2.2.2.2.2.2.2 j k hj hk
theorem zM_R_we {r r' : Nat → Int32} {T : zT} {X : zX} {A : zA} {e v : Nat} (h : zM_R r T X A) (h2 : r' (58 + 4 * e) = nI v) (h1 : ∀ k, k ≠ 58 + 4 * e → k < 101 → r' k = r k) (hm : zT_m T ≤ 4) (he4 : e < 4) : zM_R r' T (zX_sw X e v) A := by
  unfold zM_R at h ⊢
  rw [h1 0 (by omega) (by decide), h1 1 (by omega) (by decide), h1 3 (by omega) (by decide), h1 2 (by omega) (by decide), h1 4 (by omega) (by decide)]
  refine ⟨h.1, h.2.1, h.2.2.1, h.2.2.2.1, h.2.2.2.2.1, fun k hk => ?_, fun k hk => ?_, fun f hf => ?_, fun j k hj hk => ?_⟩
  · rw [h1 _ (by omega) (by omega)]; exact h.2.2.2.2.2.1 k hk
  · rw [h1 _ (by omega) (by omega)]; exact h.2.2.2.2.2.2.1 k hk
  · rw [h1 _ (by omega) (by omega), h1 _ (by omega) (by omega), h1 _ (by omega) (by omega)]
    have q := h.2.2.2.2.2.2.2.1 f hf
    refine ⟨q.1, q.2.1, q.2.2.1, ?_⟩
    show r' (55 + 4 * f + 3) = nI (if f = e then v else zX_we X f)
    by_cases hfe : f = e
    · subst hfe; rw [if_pos rfl, show 55 + 4 * f + 3 = 58 + 4 * f by omega]; exact h2
    · rw [if_neg hfe, h1 _ (by omega) (by omega)]; exact q.2.2.2
  · rw [h1 _ (by omega) (by omega), h1 _ (by omega) (by omega), h1 _ (by omega) (by omega)]; exact h.2.2.2.2.2.2.2.2 j k hj hk
theorem zM_R_co {r r' : Nat → Int32} {T : zT} {X : zX} {A : zA} {i j c : Nat} (h : zM_R r T X A) (ha : r' (5 + (5 * i + j)) = nI c) (hb : r' (5 + (5 * j + i)) = nI c) (h1 : ∀ k, k ≠ 5 + (5 * i + j) → k ≠ 5 + (5 * j + i) → k < 101 → r' k = r k) (hm : zT_m T ≤ 4) (hi : i < 5) (hj : j < 5) : zM_R r' T (zX_sc X i j c) A := by
  unfold zM_R at h ⊢
  rw [h1 0 (by omega) (by omega) (by decide), h1 1 (by omega) (by omega) (by decide), h1 3 (by omega) (by omega) (by decide), h1 2 (by omega) (by omega) (by decide), h1 4 (by omega) (by omega) (by decide)]
  refine ⟨h.1, h.2.1, h.2.2.1, h.2.2.2.1, h.2.2.2.2.1, fun k hk => ?_, fun k hk => ?_, fun e he => ?_, fun j k hj hk => ?_⟩
  · show r' (5 + k) = nI (if k = 5 * i + j ∨ k = 5 * j + i then c else zX_co X k)
    by_cases q1 : k = 5 * i + j
    · rw [if_pos (Or.inl q1), q1]; exact ha
    · by_cases q2 : k = 5 * j + i
      · rw [if_pos (Or.inr q2), q2]; exact hb
      · rw [if_neg (by omega), h1 _ (by omega) (by omega) (by omega)]; exact h.2.2.2.2.2.1 k hk
  · rw [h1 _ (by omega) (by omega) (by omega)]; exact h.2.2.2.2.2.2.1 k hk
  · rw [h1 _ (by omega) (by omega) (by omega), h1 _ (by omega) (by omega) (by omega), h1 _ (by omega) (by omega) (by omega), h1 _ (by omega) (by omega) (by omega)]; exact h.2.2.2.2.2.2.2.1 e he
  · rw [h1 _ (by omega) (by omega) (by omega), h1 _ (by omega) (by omega) (by omega), h1 _ (by omega) (by omega) (by omega)]; exact h.2.2.2.2.2.2.2.2 j k hj hk
