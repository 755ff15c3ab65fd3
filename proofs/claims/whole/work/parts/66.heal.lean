/-! ===== healed ===== -/
noncomputable def zre (T : zT) (X : zX) (s : Nat) : Bool := decide ((zo T (zX_se X s) zA_0).1 = 0)
theorem zre_if {α : Type} (T : zT) (X : zX) (u : Nat) (a b : α) : (if (zo T (zX_se X u) zA_0).1 = 0 then a else b) = if zre T X u = true then a else b := by
  unfold zre
  by_cases h : (zo T (zX_se X u) zA_0).1 = 0 <;> simp [h]
def zh_ok (P : Nat → Bool) (N b : Nat) : Prop := b < N ∧ P b = true ∧ ∀ s, s < N → P s = true → za_pc b ≤ za_pc s ∧ (za_pc s = za_pc b → b ≤ s)
noncomputable def zh_v (P : Nat → Bool) (N w : Nat) : Int32 := @dite Int32 (∃ b, zh_ok P N b) (Classical.propDecidable _) (fun h => if w = 0 then nI (za_pc (Classical.choose h)) else nI (Classical.choose h)) (fun _ => -9)
theorem zh_one {P : Nat → Bool} {N a b : Nat} (ha : zh_ok P N a) (hb : zh_ok P N b) : a = b := by
  have h1 := ha.2.2 b hb.1 hb.2.1
  have h2 := hb.2.2 a ha.1 ha.2.1
  have e : za_pc a = za_pc b := by omega
  have := h1.2 e.symm
  have := h2.2 e
  omega
theorem zh_v_some {P : Nat → Bool} {N b w : Nat} (hb : zh_ok P N b) : zh_v P N w = if w = 0 then nI (za_pc b) else nI b := by
  have h : ∃ b, zh_ok P N b := ⟨b, hb⟩
  unfold zh_v
  rw [dif_pos h, zh_one (Classical.choose_spec h) hb]
theorem zh_v_none {P : Nat → Bool} {N w : Nat} (h : ∀ s, s < N → P s = false) : zh_v P N w = -9 := by
  unfold zh_v
  rw [dif_neg]
  rintro ⟨b, hb⟩
  have := hb.2.1
  rw [h b hb.1] at this
  exact Bool.noConfusion this
def zVe (g : Nat → Nat → Int32) (T : zT) (X : zX) : Prop := ∃ p A, p < 2 ^ zT_n T ∧ zC 27 g T (zX_se X p) A
theorem z2n {n : Nat} (h : n ≤ 5) : 2 ^ n ≤ 32 := zp_31 h
theorem zi_sh' {k : Nat} (hk : k ≤ 5) : ((1 : Int32) <<< (nI k &&& 31)) = nI (2 ^ k) := by
  have key : ∀ k, k ≤ 5 → ((1 : Int32) <<< (nI k &&& 31)) = nI (2 ^ k) := by decide +kernel
  exact key k hk
theorem zpc_n : ∀ n, n ≤ 5 → ∀ s, s < 2 ^ n → za_pc s ≤ n := by decide +kernel
def zh_i (o : Option Nat) : Int32 := match o with
  | none => -9
  | some b => nI b
theorem go_healed (a : Int32) : zGo 103 195 [.int a] := by
  intro Z ok
  have h5 := ok.1.1.2.1
  have h32 := z2n h5
  rcases zi_rng (a := a) (n := 1) (by decide) 1 rfl with ⟨ha, hx⟩ | ⟨w, hw, rfl, k1, k2, k3, ha⟩
  · refine ⟨(-2, 0, 0), Z, ok, zCl_q fun g h hB => ⟨g, hB.1, fun _ _ => rfl, zs_X8_healed ((zd_X8_healed _ g h a).trans ?_)⟩, zMd_q fun g h hB => ?_⟩
    · rcases hx with hx | ⟨hx, hy, _⟩
      · rw [if_pos hx]
      · rw [if_neg hx, if_neg hy]
    · have hst := zd_X9_healed (zv_ev 10) g h a
      rw [ev_inr (dp := 9) (zv_w g 116 0 0, h) 1 a 1 rfl (by decide), if_neg ha] at hst
      exact ⟨_, zN_0 g, zs_X9_healed hst⟩
  have w0 : (nI w = 0) ↔ w = 0 := zi_0 (by omega)
  have w1 : (nI w = 1) ↔ w = 1 := zi_eqc 1 1 rfl (by omega) (by decide)
  refine ⟨(zh_v (zre Z.1.1 Z.1.2.1) (2 ^ zT_n Z.1.1) w, 0, 0), Z, ok, zCl_t fun g h hB => ?_, zMd_q fun g h hB => ?_⟩
  · obtain ⟨g1, f1, C1, r1⟩ := ev_trial (dp := 8) (Dm := (g, h)) hB.1
    dsimp only at f1 r1
    have cn : ∀ s : Nat → Nat → Int32, zF 27 43 g s → s 9 0 = nI (zT_n Z.1.1) := fun s hs => (congrFun (hs 9 (by decide)) 0).trans (zB_n hB)
    have F1 : zF 27 43 g g1 := zF_mono f1 (by decide) (by decide)
    have hst := zd_X8_healed (zv_ev 10) g h (nI w)
    rw [if_neg k1, if_pos k2, r1] at hst
    rcases zl_ex (σ := (Nat → Nat → Int32) × Option Value) (fun z s => zv_m zt_X8_healed (zv_ev 10) false 25 [some (.ref 0), some (.int (nI w)), some (.int (nI z)), s.2] [] zS0 (s.1, h)) (zT_n Z.1.1 + 1) (fun z s => zF 27 43 g s.1 ∧ zVe s.1 Z.1.1 Z.1.2.1 ∧ ∀ s, s < 2 ^ zT_n Z.1.1 → za_pc s < z → zre Z.1.1 Z.1.2.1 s = false) (fun r => ∃ g', zF 27 43 g g' ∧ r = zv_ri (zh_v (zre Z.1.1 Z.1.2.1) (2 ^ zT_n Z.1.1) w) zS0 (g', h)) (by
      rintro z ⟨s, u⟩ hz ⟨Fs, Vs, hI⟩
      dsimp only at Fs Vs
      have e1 := zd_X8_healed_25 (zv_ev 10) s h (nI w) (nI z) u
      rw [cn s Fs, if_neg (nI_nlt (by omega) (by omega))] at e1
      rcases zl_ex (σ := Nat → Nat → Int32) (fun k s => zv_m zt_X8_healed (zv_ev 10) false 38 [some (.ref 0), some (.int (nI w)), some (.int (nI z)), some (.int (nI k))] [] zS0 (s, h)) (2 ^ zT_n Z.1.1) (fun k s => zF 27 43 g s ∧ zVe s Z.1.1 Z.1.2.1 ∧ ∀ t, t < k → za_pc t = z → zre Z.1.1 Z.1.2.1 t = false) (fun r => ∃ g', zF 27 43 g g' ∧ r = zv_ri (zh_v (zre Z.1.1 Z.1.2.1) (2 ^ zT_n Z.1.1) w) zS0 (g', h)) (by
        rintro k s hk ⟨Fs, Vs, hJ⟩
        obtain ⟨p, A, hp, hC⟩ := Vs
        have C2 : zC 27 (zv_w s 28 4 (nI k)) Z.1.1 (zX_se Z.1.2.1 k) A := zC_ex_27 (X := zX_se Z.1.2.1 p) hC hk
        have F2 : zF 27 43 g (zv_w s 28 4 (nI k)) := zF_trans Fs (zF_w _ _ _ (by decide) (by decide))
        have pk := za_pc_lt k
        have e2 := zd_X8_healed_38 (zv_ev 10) s h (nI w) (nI z) (nI k)
        rw [cn s Fs, zi_sh' h5, if_neg (nI_ge hk (by omega)), ev_bitCount (dp := 9) (zv_w s 28 4 (nI k), h) (by omega), nI_1] at e2
        simp only [Option.bind_some] at e2
        by_cases hpz : za_pc k = z
        · obtain ⟨g3, f3, C3, r3⟩ := ev_restsAnew (dp := 3) (Dm := (zv_w s 28 4 (nI k), h)) C2
          dsimp only at f3 r3
          have F3 : zF 27 43 g g3 := zF_trans F2 (zF_mono f3 (by decide) (by decide))
          rw [if_pos (by rw [hpz]), r3, zre_if] at e2
          simp only [Option.bind_some] at e2
          by_cases hq : zre Z.1.1 Z.1.2.1 k = true
          · rw [if_pos hq, if_neg (show ¬ (1 : Int32) = 0 by decide)] at e2
            refine Or.inl ⟨g3, F3, e2.trans ?_⟩
            rw [zh_v_some (b := k) ⟨hk, hq, fun t ht htp => ⟨Nat.le_of_not_lt fun q => ?_, fun q => Nat.le_of_not_lt fun q2 => ?_⟩⟩]
            · by_cases hw0 : w = 0
              · rw [if_pos (w0.mpr hw0), if_pos hw0, hpz]
              · rw [if_neg (fun z => hw0 (w0.mp z)), if_neg hw0]
            · rw [hI t ht (by omega)] at htp; exact Bool.noConfusion htp
            · rw [hJ t q2 (by omega)] at htp; exact Bool.noConfusion htp
          · rw [if_neg hq, if_pos rfl] at e2
            refine Or.inr ⟨g3, ⟨F3, ⟨k, _, hk, C3⟩, fun t ht htz => ?_⟩, e2⟩
            by_cases htk : t = k
            · subst htk; simpa using hq
            · exact hJ t (by omega) htz
        · rw [if_neg (fun z => hpz ((nI_eq (by omega) (by omega)).mp z))] at e2
          refine Or.inr ⟨_, ⟨F2, ⟨k, A, hk, C2⟩, fun t ht htz => hJ t ?_ htz⟩, e2⟩
          have : t ≠ k := fun q => hpz (q ▸ htz)
          omega) s ⟨Fs, Vs, fun t ht => absurd ht (Nat.not_lt_zero t)⟩ with ⟨g', q1, q2⟩ | ⟨g', ⟨q1, q2, q3⟩, q4⟩
      · exact Or.inl ⟨g', q1, e1.trans q2⟩
      · have e2 := zd_X8_healed_38 (zv_ev 10) g' h (nI w) (nI z) (nI (2 ^ zT_n Z.1.1))
        rw [cn g' q1, zi_sh' h5, if_pos (nI_le (Nat.le_refl _) (by omega)), nI_1] at e2
        refine Or.inr ⟨(g', _), ⟨q1, q2, fun t ht htz => ?_⟩, e1.trans (q4.trans e2)⟩
        by_cases htz' : za_pc t = z
        · exact q3 t ht htz'
        · exact hI t ht (by omega)) (g1, none) ⟨F1, ⟨_, _, C1.2.1.2.2.2.2.2.1, (C1 : zC 27 g1 Z.1.1 (zX_se Z.1.2.1 (zX_ex Z.1.2.1)) Z.1.2.2)⟩, fun t _ htz => absurd htz (Nat.not_lt_zero _)⟩ with ⟨g', q1, q2⟩ | ⟨⟨g', u'⟩, ⟨q1, q2, q3⟩, q4⟩
    · exact ⟨g', q1, zs_X8_healed (hst.trans q2)⟩
    · dsimp only at q1 q2 q4
      refine ⟨g', q1, zs_X8_healed (hst.trans (q4.trans ?_))⟩
      rw [zd_X8_healed_25, cn g' q1, if_pos (nI_lt (by omega) (by omega)), zh_v_none (fun t ht => q3 t ht (by have := zpc_n _ h5 t ht; omega))]
  · have hst := zd_X9_healed (zv_ev 10) g h (nI w)
    rw [ev_inr (dp := 9) (zv_w g 116 0 0, h) 1 (nI w) 1 rfl (by decide), if_pos ha] at hst
    simp only [Option.bind_some] at hst
    rw [if_neg (by decide)] at hst
    obtain ⟨⟨g2, o2⟩, ⟨N2, hI2⟩, q2⟩ := zl_up (σ := (Nat → Nat → Int32) × Option Nat) (fun k s => zv_m zt_X9_healed (zv_ev 10) false 23 [some (.ref 116), some (.int (nI w)), some (.int (zh_i s.2)), some (.int (nI k))] [] zS0 (s.1, h)) (2 ^ zT_n Z.1.1) (fun k s => zN g s.1 ∧ match s.2 with | none => ∀ t, t < k → zre Z.1.1 Z.1.2.1 t = false | some b => zh_ok (zre Z.1.1 Z.1.2.1) k b) (by
      rintro k ⟨s, o⟩ hk ⟨Ns, hI⟩
      dsimp only at Ns hI
      have Bs := zBM_q hB Ns
      obtain ⟨g3, N3, -, -, r3⟩ := ev_restsM (dp := 2) (Dm := (s, h)) (u := zX_up Z.1.2.1) (v := k) ok.1.1 ok.1.2.1 ok.1.2.1.2.2.2.2.1 hk Bs.1
      dsimp only at N3
      have r3' : zv_ev 10 190 [.ref 116, .int (nI (zX_up Z.1.2.1)), .int (nI k)] zS0 (s, h) = zo_i (if zre Z.1.1 Z.1.2.1 k = true then 1 else 0) (g3, h) := r3.trans (congrArg (fun v => zo_i v (g3, h)) (zre_if Z.1.1 Z.1.2.1 k 1 0))
      have pk := za_pc_lt k
      have e2 := zd_X9_healed_23 (zv_ev 10) s h (nI w) (zh_i o) (nI k)
      rw [show s 119 0 = nI (zT_n Z.1.1) from Bs.1.1, zi_sh' h5, if_neg (nI_ge hk (by omega)), show s 119 2 = nI (zX_up Z.1.2.1) from Bs.1.2.2.1, r3', nI_1, ev_ones (dp := 9) (s, h) (by omega)] at e2
      simp only [Option.bind_some] at e2
      cases o with
      | none =>
        dsimp only at hI
        rw [if_pos (show zh_i none = -9 from rfl)] at e2
        by_cases hq : zre Z.1.1 Z.1.2.1 k = true
        · rw [if_pos hq, if_neg (show ¬ (1 : Int32) = 0 by decide)] at e2
          refine ⟨(g3, some k), ⟨zN_trans Ns N3, ⟨Nat.lt_succ_self k, hq, fun t ht htp => ?_⟩⟩, e2⟩
          by_cases htk : t = k
          · subst htk; exact ⟨Nat.le_refl _, fun _ => Nat.le_refl _⟩
          · rw [hI t (by omega)] at htp; exact Bool.noConfusion htp
        · rw [if_neg hq, if_pos rfl] at e2
          refine ⟨(g3, none), ⟨zN_trans Ns N3, fun t ht => ?_⟩, e2⟩
          by_cases htk : t = k
          · subst htk; simpa using hq
          · exact hI t (by omega)
      | some b =>
        dsimp only at hI
        have hb := hI.1
        have pb := za_pc_lt b
        have e2' := e2
        rw [if_neg (show ¬ zh_i (some b) = -9 from zi_ne9 (by omega)), show (Value.int (zh_i (some b))) = Value.int (nI b) from rfl, ev_ones (dp := 9) (s, h) (by omega)] at e2'
        simp only [Option.bind_some] at e2'
        rw [show s 119 2 = nI (zX_up Z.1.2.1) from Bs.1.2.2.1, r3'] at e2'
        simp only [Option.bind_some] at e2'
        by_cases hpc : za_pc b ≤ za_pc k
        · rw [if_pos (nI_le hpc (by omega))] at e2'
          refine ⟨(s, some b), ⟨Ns, ⟨by omega, hI.2.1, fun t ht htp => ?_⟩⟩, e2'⟩
          by_cases htk : t = k
          · subst htk; exact ⟨hpc, fun _ => by omega⟩
          · exact hI.2.2 t (by omega) htp
        · rw [if_neg (fun z => hpc ((nI_leI (by omega) (by omega)).mp z))] at e2'
          by_cases hq : zre Z.1.1 Z.1.2.1 k = true
          · rw [if_pos hq, if_neg (show ¬ (1 : Int32) = 0 by decide)] at e2'
            refine ⟨(g3, some k), ⟨zN_trans Ns N3, ⟨Nat.lt_succ_self k, hq, fun t ht htp => ?_⟩⟩, e2'⟩
            by_cases htk : t = k
            · subst htk; exact ⟨Nat.le_refl _, fun _ => Nat.le_refl _⟩
            · have := hI.2.2 t (by omega) htp
              omega
          · rw [if_neg hq, if_pos rfl] at e2'
            refine ⟨(g3, some b), ⟨zN_trans Ns N3, ⟨by omega, hI.2.1, fun t ht htp => ?_⟩⟩, e2'⟩
            by_cases htk : t = k
            · subst htk; exact absurd htp hq
            · exact hI.2.2 t (by omega) htp) (zv_w g 116 0 0, none) ⟨zN_0 g, fun t ht => absurd ht (Nat.not_lt_zero t)⟩
    dsimp only at N2 hI2 q2
    have e2 := zd_X9_healed_23 (zv_ev 10) g2 h (nI w) (zh_i o2) (nI (2 ^ zT_n Z.1.1))
    rw [show g2 119 0 = nI (zT_n Z.1.1) from (zBM_q hB N2).1.1, zi_sh' h5, if_pos (nI_le (Nat.le_refl _) (by omega))] at e2
    refine ⟨g2, N2, zs_X9_healed (hst.trans (q2.trans (e2.trans ?_)))⟩
    cases o2 with
    | none =>
      rw [zh_v_none hI2]
      by_cases hw1 : w = 1
      · rw [if_pos (w1.mpr hw1)]; rfl
      · rw [if_neg (fun z => hw1 (w1.mp z)), if_pos (show zh_i none = -9 from rfl)]; rfl
    | some b =>
      have hb := hI2.1
      rw [zh_v_some hI2]
      by_cases hw1 : w = 1
      · rw [if_pos (w1.mpr hw1), if_neg (show ¬ w = 0 by omega)]; rfl
      · rw [if_neg (fun z => hw1 (w1.mp z)), if_neg (show ¬ zh_i (some b) = -9 from zi_ne9 (by omega)), if_pos (show w = 0 by omega), show (Value.int (zh_i (some b))) = Value.int (nI b) from rfl, ev_ones (dp := 9) (g2, h) (by omega)]
        rfl
