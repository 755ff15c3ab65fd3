/-- a trial with some exits up -/
def zV (g : Nat → Nat → Int32) (T : zT) (X : zX) : Prop := ∃ p A, p < 2 ^ zT_m T ∧ zC 27 g T (zX_su X p) A
theorem ev_tryUp {dp : Nat} {g : Nat → Nat → Int32} {h : Nat → Nat → Int64} {T : zT} {X : zX} (hV : zV g T X) {u : Nat} (hu : u < 2 ^ zT_m T) : ∃ g', zF 27 39 g g' ∧ zC 27 g' T (zX_su X u) (zoA T (zX_su X u) zA_0) ∧ zv_ev (dp + 7) 121 [.ref 0] zS0 (zv_w g 28 3 (nI u), h) = zo_i (if (zo T (zX_su X u) zA_0).1 = 0 then 1 else 0) (g', h) := by
  obtain ⟨p, A, hp, hC⟩ := hV
  have C1 : zC 27 (zv_w g 28 3 (nI u)) T (zX_su X u) A := zC_up_27 (X := zX_su X p) hC hu
  obtain ⟨g', f, C2, r⟩ := ev_restsAnew (dp := dp) (Dm := (zv_w g 28 3 (nI u), h)) C1
  exact ⟨g', zF_trans (zF_w _ _ _ (by decide) (by decide)) f, C2, r⟩
theorem zV_of {g : Nat → Nat → Int32} {T : zT} {X : zX} {A : zA} {u : Nat} (hu : u < 2 ^ zT_m T) (hC : zC 27 g T (zX_su X u) A) : zV g T X := ⟨u, A, hu, hC⟩
theorem zV_0 {g : Nat → Nat → Int32} {T : zT} {X : zX} {A : zA} (hC : zC 27 g T X A) : zV g T X := ⟨zX_up X, A, hC.2.1.2.2.2.2.1, hC⟩
theorem z2m {m : Nat} (h : m ≤ 4) : 2 ^ m ≤ 16 := by
  have : 2 ^ m ≤ 2 ^ 4 := Nat.pow_le_pow_right (by decide) h
  omega
noncomputable def zr (T : zT) (X : zX) (u : Nat) : Bool := decide ((zo T (zX_su X u) zA_0).1 = 0)
theorem zr_if {α : Type} (T : zT) (X : zX) (u : Nat) (a b : α) : (if (zo T (zX_su X u) zA_0).1 = 0 then a else b) = if zr T X u = true then a else b := by
  unfold zr
  by_cases h : (zo T (zX_su X u) zA_0).1 = 0 <;> simp [h]
noncomputable def za_ls (T : zT) (X : zX) (x : Nat) : Nat → Nat
  | 0 => 0
  | k + 1 => za_ls T X x k + (if zr T X k = true then za_cc k x (zT_m T) else 0)
theorem za_ls_le {T : zT} {X : zX} {x : Nat} (hx : x ≤ 10) (h4 : zT_m T ≤ 4) : ∀ k, k ≤ 2 ^ zT_m T → za_ls T X x k ≤ 10000 * k := by
  intro k
  induction k with
  | zero => intro _; exact Nat.le_refl _
  | succ k ih =>
    intro hk
    have h1 := ih (by omega)
    have h2 := (za_cc_pc hx _ h4 k (by omega)).2.2
    show za_ls T X x k + _ ≤ _
    split <;> omega
theorem go_lost (a b : Int32) : zGo 109 209 [.int a, .int b] := by
  intro Z ok
  have h4 := ok.1.1.2.2.1
  have h16 := z2m h4
  rcases zi_rng (a := a) (n := 10) (by decide) 10 rfl with ⟨ha, hx⟩ | ⟨x, hx, rfl, k1, k2, k3, ha⟩
  · refine ⟨(-2, 0, 0), Z, ok, zCl_q fun g h hB => ⟨g, hB.1, fun _ _ => rfl, zs_X8_lost ((zd_X8_lost _ g h a b).trans ?_)⟩, zMd_q fun g h hB => ?_⟩
    · rcases hx with hx | ⟨hx, hy, _⟩
      · rw [if_pos hx]
      · rw [if_neg hx, if_neg hy]
    · have hst := zd_X9_lost (zv_ev 10) g h a b
      rw [ev_inr (dp := 9) (zv_w g 116 0 0, h) 10 a 10 rfl (by decide), if_neg ha] at hst
      exact ⟨_, zN_0 g, zs_X9_lost hst⟩
  have hls := za_ls_le (T := Z.1.1) (X := Z.1.2.1) hx h4 (2 ^ zT_m Z.1.1) (Nat.le_refl _)
  have h10 : 10 ^ zT_m Z.1.1 ≤ 10 ^ 4 := Nat.pow_le_pow_right (by decide) h4
  obtain ⟨v, hvC, hvM⟩ := ev_part (dp := 8) (a := nI (za_ls Z.1.1 Z.1.2.1 x (2 ^ zT_m Z.1.1))) (b := b) (p := za_ls Z.1.1 Z.1.2.1 x (2 ^ zT_m Z.1.1)) (q := 10 ^ zT_m Z.1.1) (if_pos (nI_pos' (by omega))) (by omega) (Nat.pow_pos (by decide)) (by omega)
  refine ⟨(v, 0, 0), Z, ok, zCl_t fun g h hB => ?_, zMd_q fun g h hB => ?_⟩
  · obtain ⟨g1, f1, C1, r1⟩ := ev_trial (dp := 8) (Dm := (g, h)) hB.1
    dsimp only at f1 r1
    have cm : ∀ s : Nat → Nat → Int32, zF 27 43 g s → s 9 1 = nI (zT_m Z.1.1) := fun s hs => (congrFun (hs 9 (by decide)) 1).trans (zB_m hB)
    have F1 : zF 27 43 g g1 := zF_mono f1 (by decide) (by decide)
    obtain ⟨-, -, q1⟩ := zl_up (σ := Unit) (fun k _ => zv_m zt_X8_lost (zv_ev 10) false 32 [some (.ref 0), some (.int (nI x)), some (.int b), some (.int 0), some (.int (nI (10 ^ k))), some (.int (nI k)), none] [] zS0 (g1, h)) (zT_m Z.1.1) (fun _ _ => True) (by
      intro k _ hk _
      refine ⟨(), trivial, ?_⟩
      rw [zd_X8_lost_32, cm g1 F1, if_neg (nI_ge hk (by omega)), show (10 : Int32) = nI 10 from rfl, pk_mul, nI_1, ← Nat.pow_succ]) () trivial
    obtain ⟨⟨g2, u2⟩, ⟨F2, V2⟩, q2⟩ := zl_up (σ := (Nat → Nat → Int32) × Option Value) (fun k s => zv_m zt_X8_lost (zv_ev 10) false 60 [some (.ref 0), some (.int (nI x)), some (.int b), some (.int (nI (za_ls Z.1.1 Z.1.2.1 x k))), some (.int (nI (10 ^ zT_m Z.1.1))), some (.int (nI k)), s.2] [] zS0 (s.1, h)) (2 ^ zT_m Z.1.1) (fun k s => zF 27 43 g s.1 ∧ zV s.1 Z.1.1 Z.1.2.1) (by
      rintro k ⟨s, u⟩ hk ⟨Fs, Vs⟩
      dsimp only at Fs Vs
      have hst := zd_X8_lost_60 (zv_ev 10) s h (nI x) b (nI (za_ls Z.1.1 Z.1.2.1 x k)) (nI (10 ^ zT_m Z.1.1)) (nI k) u
      have hcc := za_cc_pc hx _ h4 k hk
      have Fw : zF 27 43 g (zv_w s 28 3 (nI k)) := zF_trans Fs (zF_w _ _ _ (by decide) (by decide))
      rw [cm s Fs, zi_sh (by omega), if_neg (nI_ge hk (by omega)), ev_chance (dp := 9) (zv_w s 28 3 (nI k), h) (s := k) (x := x) (cm _ Fw) h4 (by omega) hx] at hst
      simp only [Option.bind_some] at hst
      rw [nI_1] at hst
      have els : za_ls Z.1.1 Z.1.2.1 x (k + 1) = za_ls Z.1.1 Z.1.2.1 x k + (if zr Z.1.1 Z.1.2.1 k = true then za_cc k x (zT_m Z.1.1) else 0) := rfl
      by_cases h0 : za_cc k x (zT_m Z.1.1) = 0
      · rw [if_pos ((zi_0 (by omega)).mpr h0)] at hst
        obtain ⟨p, A, hp, hC⟩ := Vs
        rw [els, h0, ite_self, Nat.add_zero]
        exact ⟨(_, _), ⟨Fw, k, A, hk, zC_up_27 (X := zX_su Z.1.2.1 p) hC hk⟩, hst⟩
      · obtain ⟨g3, f3, C3, r3⟩ := ev_tryUp (dp := 3) (h := h) Vs hk
        rw [if_neg (fun z => h0 ((zi_0 (by omega)).mp z)), r3, zr_if] at hst
        simp only [Option.bind_some] at hst
        have F3 : zF 27 43 g g3 := zF_trans Fs (zF_mono f3 (by decide) (by decide))
        rw [els]
        by_cases hr : zr Z.1.1 Z.1.2.1 k = true
        · rw [if_pos hr, if_neg (by decide), nI_add] at hst
          rw [if_pos hr]
          exact ⟨(_, _), ⟨F3, zV_of hk C3⟩, hst⟩
        · rw [if_neg hr, if_pos rfl] at hst
          rw [if_neg hr, Nat.add_zero]
          exact ⟨(_, _), ⟨F3, zV_of hk C3⟩, hst⟩) (g1, none) ⟨F1, zV_0 C1⟩
    dsimp only at F2 V2 q2
    have hst := zd_X8_lost (zv_ev 10) g h (nI x) b
    rw [if_neg k1, if_pos k2, r1] at hst
    have e1 := zd_X8_lost_32 (zv_ev 10) g1 h (nI x) b 0 (nI (10 ^ zT_m Z.1.1)) (nI (zT_m Z.1.1)) none
    rw [cm g1 F1, if_pos (nI_le (Nat.le_refl _) (by omega))] at e1
    have e2 := zd_X8_lost_60 (zv_ev 10) g2 h (nI x) b (nI (za_ls Z.1.1 Z.1.2.1 x (2 ^ zT_m Z.1.1))) (nI (10 ^ zT_m Z.1.1)) (nI (2 ^ zT_m Z.1.1)) u2
    rw [cm g2 F2, zi_sh (by omega), if_pos (nI_le (Nat.le_refl _) (by omega)), hvC (g2, h)] at e2
    exact ⟨g2, F2, zs_X8_lost (hst.trans (q1.trans (e1.trans (q2.trans e2))))⟩
  · have hst := zd_X9_lost (zv_ev 10) g h (nI x) b
    have hB0 := zBM_0 hB
    rw [ev_inr (dp := 9) (zv_w g 116 0 0, h) 10 (nI x) 10 rfl (by decide), if_pos ha] at hst
    simp only [Option.bind_some] at hst
    rw [if_neg (by decide), show zv_w g 116 0 0 119 1 = nI (zT_m Z.1.1) from hB0.1.2.1] at hst
    obtain ⟨⟨g2, u2⟩, N2, q2⟩ := zl_up (σ := (Nat → Nat → Int32) × Option Value) (fun k s => zv_m zt_X9_lost (zv_ev 10) false 33 [some (.ref 116), some (.int (nI x)), some (.int b), some (.int (nI (zT_m Z.1.1))), some (.int (nI (za_ls Z.1.1 Z.1.2.1 x k))), some (.int (nI k)), s.2] [] zS0 (s.1, h)) (2 ^ zT_m Z.1.1) (fun k s => zN g s.1) (by
      rintro k ⟨s, u⟩ hk Ns
      dsimp only at Ns
      have Bs := zBM_q hB Ns
      have hs2 := zd_X9_lost_33 (zv_ev 10) s h (nI x) b (nI (zT_m Z.1.1)) (nI (za_ls Z.1.1 Z.1.2.1 x k)) (nI k) u
      have hcc := za_cc_pc hx _ h4 k hk
      obtain ⟨g3, N3, -, -, r3⟩ := ev_restsM (dp := 2) (Dm := (s, h)) (u := k) (v := zX_ex Z.1.2.1) ok.1.1 ok.1.2.1 hk ok.1.2.1.2.2.2.2.2.1 Bs.1
      dsimp only at N3
      have r3' : zv_ev 10 190 [.ref 116, .int (nI k), .int (nI (zX_ex Z.1.2.1))] zS0 (s, h) = zo_i (if zr Z.1.1 Z.1.2.1 k = true then 1 else 0) (g3, h) := r3.trans (congrArg (fun v => zo_i v (g3, h)) (zr_if Z.1.1 Z.1.2.1 k 1 0))
      rw [zi_sh (by omega), if_neg (nI_ge hk (by omega)), ev_ones (dp := 9) (s, h) (by omega)] at hs2
      simp only [Option.bind_some] at hs2
      rw [show s 119 3 = nI (zX_ex Z.1.2.1) from Bs.1.2.2.2.1, r3', nI_1] at hs2
      simp only [Option.bind_some] at hs2
      have els : za_ls Z.1.1 Z.1.2.1 x (k + 1) = za_ls Z.1.1 Z.1.2.1 x k + (if zr Z.1.1 Z.1.2.1 k = true then za_cc k x (zT_m Z.1.1) else 0) := rfl
      rw [els]
      by_cases hr : zr Z.1.1 Z.1.2.1 k = true
      · rw [if_pos hr, if_neg (by decide), show (10 : Int32) - nI x = nI (10 - x) from pk_sub (a := 10) (b := x) hx, ev_power (dp := 9) (g3, h) (by omega)] at hs2
        simp only [Option.bind_some] at hs2
        rw [pk_sub hcc.2.1, ev_power (dp := 9) (g3, h) (by omega)] at hs2
        simp only [Option.bind_some] at hs2
        rw [pk_mul, ← hcc.1, nI_add] at hs2
        rw [if_pos hr]
        exact ⟨(_, _), zN_trans Ns N3, hs2⟩
      · rw [if_neg hr, if_pos rfl, Int32.add_zero] at hs2
        rw [if_neg hr, Nat.add_zero]
        exact ⟨(_, _), zN_trans Ns N3, hs2⟩) (zv_w g 116 0 0, none) (zN_0 g)
    dsimp only at N2 q2
    have e2 := zd_X9_lost_33 (zv_ev 10) g2 h (nI x) b (nI (zT_m Z.1.1)) (nI (za_ls Z.1.1 Z.1.2.1 x (2 ^ zT_m Z.1.1))) (nI (2 ^ zT_m Z.1.1)) u2
    rw [zi_sh (by omega), if_pos (nI_le (Nat.le_refl _) (by omega)), show (10 : Int32) = nI 10 from rfl, ev_power (dp := 9) (g2, h) (by omega)] at e2
    simp only [Option.bind_some] at e2
    rw [hvM (g2, h)] at e2
    exact ⟨g2, N2, zs_X9_lost (hst.trans (q2.trans e2))⟩
