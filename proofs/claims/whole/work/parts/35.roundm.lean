theorem zx_71 {i q : Nat} : ((71 : Int32) + ((6 : Int32) * nI i)) + nI q = nI (71 + 6 * i + q) := by
  rw [show (71 : Int32) = nI 71 from rfl, show (6 : Int32) = nI 6 from rfl, pk_mul, nI_add, nI_add]
theorem zx_6 {i q : Nat} : ((6 : Int32) * nI i) + nI q = nI (6 * i + q) := by
  rw [show (6 : Int32) = nI 6 from rfl, pk_mul, nI_add]
def za_ne (a b : Nat → Nat) : Bool := !(decide (a 0 = b 0) && decide (a 1 = b 1))
theorem ev_putChoices_119 {dp : Nat} {Dm : zv_D} {T : zT} {X : zX} {A : zA} {i : Nat} {tk : Nat → Nat} (hT : zT_ok T) (hR : zM_R (Dm.1 119) T X A) (hN : zM_N Dm.1 tk) (hi : i < 5) (ht : ∀ k, k < 2 → za_R T i (tk k)) (hA : ∀ k, k < 2 → za_R T i (A i k)) :
    ∃ g', (∀ x, x ≠ 119 → g' x = Dm.1 x) ∧ zM_R (g' 119) T X (fun j => if j = i then tk else A j) ∧ zv_ev (dp + 1) 167 [.ref 116, .ref 119, .int (nI i)] zS0 Dm = zo_i (if za_ne tk (A i) = true then 1 else 0) (g', Dm.2) := by
  obtain ⟨⟨g1, b1, u1⟩, ⟨f1, n1, o1, c1⟩, r1⟩ := zl_up (σ := (Nat → Nat → Int32) × Bool × Option Value) (fun k s => zv_m zt_X9_putChoices (zv_ev dp) true 5 [some (.ref 116), some (.ref 119), some (.int (nI i)), some (.int (if s.2.1 = true then 1 else 0)), some (.int (nI k)), s.2.2] [] zS0 (s.1, Dm.2)) 6 (fun k s => (∀ x, x ≠ 119 → s.1 x = Dm.1 x) ∧ (∀ q, q < k → s.1 119 (71 + 6 * i + q) = Dm.1 131 q) ∧ (∀ q, q < 71 + 6 * i ∨ 71 + 6 * i + k ≤ q → s.1 119 q = Dm.1 119 q) ∧ (s.2.1 = false ↔ ∀ q, q < k → Dm.1 119 (71 + 6 * i + q) = Dm.1 131 q)) (by
    rintro k ⟨g', b, u⟩ hk ⟨hf, hn, ho, hb⟩
    dsimp only at hf hn ho hb
    have hst := zd_X9_putChoices_p119_5 (zv_ev dp) g' Dm.2 (nI i) (if b = true then 1 else 0) (nI k) u
    rw [if_neg (zi_ge 6 6 rfl hk (by decide)), zx_71, zi_in (n := 101) (by omega) (by decide), zi_in hk (by decide), nI_clamp (by omega), nI_clamp (by omega), nI_1] at hst
    simp only [cond_true] at hst
    have hw : ∀ (b' : Bool) (u' : Option Value), (b' = false ↔ b = false ∧ Dm.1 119 (71 + 6 * i + k) = Dm.1 131 k) → zv_m zt_X9_putChoices (zv_ev dp) true 5 [some (.ref 116), some (.ref 119), some (.int (nI i)), some (.int (if b = true then 1 else 0)), some (.int (nI k)), u] [] zS0 (g', Dm.2) = zv_m zt_X9_putChoices (zv_ev dp) true 5 [some (.ref 116), some (.ref 119), some (.int (nI i)), some (.int (if b' = true then 1 else 0)), some (.int (nI (k + 1))), u'] [] zS0 (zv_w g' 119 (71 + 6 * i + k) (g' 131 k), Dm.2) → ∃ s' : (Nat → Nat → Int32) × Bool × Option Value, ((∀ x, x ≠ 119 → s'.1 x = Dm.1 x) ∧ (∀ q, q < k + 1 → s'.1 119 (71 + 6 * i + q) = Dm.1 131 q) ∧ (∀ q, q < 71 + 6 * i ∨ 71 + 6 * i + (k + 1) ≤ q → s'.1 119 q = Dm.1 119 q) ∧ (s'.2.1 = false ↔ ∀ q, q < k + 1 → Dm.1 119 (71 + 6 * i + q) = Dm.1 131 q)) ∧ zv_m zt_X9_putChoices (zv_ev dp) true 5 [some (.ref 116), some (.ref 119), some (.int (nI i)), some (.int (if b = true then 1 else 0)), some (.int (nI k)), u] [] zS0 (g', Dm.2) = zv_m zt_X9_putChoices (zv_ev dp) true 5 [some (.ref 116), some (.ref 119), some (.int (nI i)), some (.int (if s'.2.1 = true then 1 else 0)), some (.int (nI (k + 1))), s'.2.2] [] zS0 (s'.1, Dm.2) := by
      intro b' u' hb' hz
      refine ⟨(zv_w g' 119 (71 + 6 * i + k) (g' 131 k), b', u'), ⟨fun x hx => (zw_cell _ _ _ hx).trans (hf x hx), fun q hq => ?_, fun q hq => ?_, ?_⟩, hz⟩
      · by_cases hqk : q = k
        · subst hqk; dsimp only; rw [zw_same, hf 131 (by decide)]
        · dsimp only; rw [zw_other _ _ _ (by omega)]; exact hn q (by omega)
      · dsimp only; rw [zw_other _ _ _ (by omega)]; exact ho q (by omega)
      · dsimp only
        rw [hb', hb]
        constructor
        · rintro ⟨q1, q2⟩ q hq
          by_cases hqk : q = k
          · subst hqk; exact q2
          · exact q1 q (by omega)
        · intro q1
          exact ⟨fun q hq => q1 q (by omega), q1 k (by omega)⟩
    have e1 : g' 119 (71 + 6 * i + k) = Dm.1 119 (71 + 6 * i + k) := ho _ (by omega)
    have e2 : g' 131 k = Dm.1 131 k := congrFun (hf 131 (by decide)) k
    cases b with
    | false =>
      rw [if_neg (by decide), if_pos rfl] at hst
      by_cases hc : Dm.1 119 (71 + 6 * i + k) = Dm.1 131 k
      · rw [if_pos (by rw [e1, e2]; exact hc)] at hst
        exact hw false _ ⟨fun _ => ⟨rfl, hc⟩, fun _ => rfl⟩ hst
      · rw [if_neg (by rw [e1, e2]; exact hc)] at hst
        exact hw true _ ⟨fun z => Bool.noConfusion z, fun z => absurd z.2 hc⟩ hst
    | true =>
      rw [if_pos rfl, if_neg (by decide)] at hst
      exact hw true _ ⟨fun z => Bool.noConfusion z, fun z => Bool.noConfusion z.1⟩ hst) (Dm.1, false, none) ⟨fun _ _ => rfl, fun q hq => absurd hq (Nat.not_lt_zero q), fun _ _ => rfl, fun _ q hq => absurd hq (Nat.not_lt_zero q), fun _ => rfl⟩
  dsimp only at f1 n1 o1 c1 r1
  have hch : b1 = za_ne tk (A i) := by
    have e1 : b1 = false ↔ za_ne tk (A i) = false := by
      rw [c1]
      unfold za_ne
      simp only [Bool.not_eq_false', Bool.and_eq_true, decide_eq_true_eq]
      rw [← zm_t_inj ht hA]
      constructor
      · intro h q hq; rw [← hN q hq, ← h q hq, zM_R_t hR hi hq]
      · intro h q hq; rw [hN q hq, h q hq, zM_R_t hR hi hq]
    cases b1 <;> cases h : za_ne tk (A i) <;> simp_all
  refine ⟨g1, f1, zM_R_mk hR (fun q hq => o1 q (by omega)) (fun j q hj hq => ?_) hT.2.2.1, zs_X9_putChoices_p119 ((zd_X9_putChoices_p119 _ Dm.1 Dm.2 _).trans (r1.trans ?_))⟩
  · by_cases hji : j = i
    · subst hji
      rw [if_pos rfl, n1 q hq]
      exact hN q hq
    · rw [if_neg hji, o1 _ (by omega)]
      exact zM_R_t hR hj hq
  · rw [zd_X9_putChoices_p119_5, if_pos (zi_le 6 6 rfl (by decide) (by decide)), hch]
    cases za_ne tk (A i) <;> rfl
theorem ev_stepOn_119 {dp : Nat} {Dm : zv_D} {T : zT} {X : zX} {A : zA} {i : Nat} (hT : zT_ok T) (hX : zX_ok T X) (hR : zM_R (Dm.1 119) T X A) (hK : zM_K Dm.1 T X) (hW : za_W T A) (hi : i < zT_n T) :
    ∃ g', (∀ x, x ≠ 119 → x ≠ 129 → x ≠ 130 → x ≠ 131 → g' x = Dm.1 x) ∧ zM_R (g' 119) T X (za_st T X A i) ∧ zv_ev (dp + 6) 168 [.ref 116, .ref 119, .int (nI i)] zS0 Dm = zo_i (if za_ch T X A i = true then 1 else 0) (g', Dm.2) := by
  have h5 := hT.2.1
  obtain ⟨g1, f1, n1, r1⟩ := ev_mtake_119 (dp := dp) (Dm := (Dm.1, Dm.2)) hT hX hR hK hW hi
  dsimp only at f1 r1
  obtain ⟨g2, f2, R2, r2⟩ := ev_putChoices_119 (dp := dp + 4) (Dm := (g1, Dm.2)) (A := A) (X := X) hT (by dsimp only; rw [f1 119 (by decide) (by decide) (by decide)]; exact hR) n1 (by omega) (fun k _ => za_de_R hT hW hi k) (fun k _ => hW.1 i k)
  dsimp only at f2 r2
  have hst := zd_X9_stepOn_p119 (zv_ev (dp + 5)) Dm.1 Dm.2 (nI i)
  rw [r1] at hst
  simp only [Option.bind_some] at hst
  rw [r2] at hst
  simp only [Option.bind_some] at hst
  refine ⟨g2, fun x h1 h2 h3 h4 => (f2 x h1).trans (f1 x h2 h3 h4), R2, zs_X9_stepOn_p119 (hst.trans ?_)⟩
  show _ = zv_ri (if za_ne (za_de T X A i) (A i) = true then 1 else 0) zS0 (g2, Dm.2)
  cases za_ne (za_de T X A i) (A i) <;> rfl
theorem ev_putChoices_120 {dp : Nat} {Dm : zv_D} {T : zT} {X : zX} {A : zA} {i : Nat} {tk : Nat → Nat} (hT : zT_ok T) (hR : zM_R (Dm.1 120) T X A) (hN : zM_N Dm.1 tk) (hi : i < 5) (ht : ∀ k, k < 2 → za_R T i (tk k)) (hA : ∀ k, k < 2 → za_R T i (A i k)) :
    ∃ g', (∀ x, x ≠ 120 → g' x = Dm.1 x) ∧ zM_R (g' 120) T X (fun j => if j = i then tk else A j) ∧ zv_ev (dp + 1) 167 [.ref 116, .ref 120, .int (nI i)] zS0 Dm = zo_i (if za_ne tk (A i) = true then 1 else 0) (g', Dm.2) := by
  obtain ⟨⟨g1, b1, u1⟩, ⟨f1, n1, o1, c1⟩, r1⟩ := zl_up (σ := (Nat → Nat → Int32) × Bool × Option Value) (fun k s => zv_m zt_X9_putChoices (zv_ev dp) true 5 [some (.ref 116), some (.ref 120), some (.int (nI i)), some (.int (if s.2.1 = true then 1 else 0)), some (.int (nI k)), s.2.2] [] zS0 (s.1, Dm.2)) 6 (fun k s => (∀ x, x ≠ 120 → s.1 x = Dm.1 x) ∧ (∀ q, q < k → s.1 120 (71 + 6 * i + q) = Dm.1 131 q) ∧ (∀ q, q < 71 + 6 * i ∨ 71 + 6 * i + k ≤ q → s.1 120 q = Dm.1 120 q) ∧ (s.2.1 = false ↔ ∀ q, q < k → Dm.1 120 (71 + 6 * i + q) = Dm.1 131 q)) (by
    rintro k ⟨g', b, u⟩ hk ⟨hf, hn, ho, hb⟩
    dsimp only at hf hn ho hb
    have hst := zd_X9_putChoices_p120_5 (zv_ev dp) g' Dm.2 (nI i) (if b = true then 1 else 0) (nI k) u
    rw [if_neg (zi_ge 6 6 rfl hk (by decide)), zx_71, zi_in (n := 101) (by omega) (by decide), zi_in hk (by decide), nI_clamp (by omega), nI_clamp (by omega), nI_1] at hst
    simp only [cond_true] at hst
    have hw : ∀ (b' : Bool) (u' : Option Value), (b' = false ↔ b = false ∧ Dm.1 120 (71 + 6 * i + k) = Dm.1 131 k) → zv_m zt_X9_putChoices (zv_ev dp) true 5 [some (.ref 116), some (.ref 120), some (.int (nI i)), some (.int (if b = true then 1 else 0)), some (.int (nI k)), u] [] zS0 (g', Dm.2) = zv_m zt_X9_putChoices (zv_ev dp) true 5 [some (.ref 116), some (.ref 120), some (.int (nI i)), some (.int (if b' = true then 1 else 0)), some (.int (nI (k + 1))), u'] [] zS0 (zv_w g' 120 (71 + 6 * i + k) (g' 131 k), Dm.2) → ∃ s' : (Nat → Nat → Int32) × Bool × Option Value, ((∀ x, x ≠ 120 → s'.1 x = Dm.1 x) ∧ (∀ q, q < k + 1 → s'.1 120 (71 + 6 * i + q) = Dm.1 131 q) ∧ (∀ q, q < 71 + 6 * i ∨ 71 + 6 * i + (k + 1) ≤ q → s'.1 120 q = Dm.1 120 q) ∧ (s'.2.1 = false ↔ ∀ q, q < k + 1 → Dm.1 120 (71 + 6 * i + q) = Dm.1 131 q)) ∧ zv_m zt_X9_putChoices (zv_ev dp) true 5 [some (.ref 116), some (.ref 120), some (.int (nI i)), some (.int (if b = true then 1 else 0)), some (.int (nI k)), u] [] zS0 (g', Dm.2) = zv_m zt_X9_putChoices (zv_ev dp) true 5 [some (.ref 116), some (.ref 120), some (.int (nI i)), some (.int (if s'.2.1 = true then 1 else 0)), some (.int (nI (k + 1))), s'.2.2] [] zS0 (s'.1, Dm.2) := by
      intro b' u' hb' hz
      refine ⟨(zv_w g' 120 (71 + 6 * i + k) (g' 131 k), b', u'), ⟨fun x hx => (zw_cell _ _ _ hx).trans (hf x hx), fun q hq => ?_, fun q hq => ?_, ?_⟩, hz⟩
      · by_cases hqk : q = k
        · subst hqk; dsimp only; rw [zw_same, hf 131 (by decide)]
        · dsimp only; rw [zw_other _ _ _ (by omega)]; exact hn q (by omega)
      · dsimp only; rw [zw_other _ _ _ (by omega)]; exact ho q (by omega)
      · dsimp only
        rw [hb', hb]
        constructor
        · rintro ⟨q1, q2⟩ q hq
          by_cases hqk : q = k
          · subst hqk; exact q2
          · exact q1 q (by omega)
        · intro q1
          exact ⟨fun q hq => q1 q (by omega), q1 k (by omega)⟩
    have e1 : g' 120 (71 + 6 * i + k) = Dm.1 120 (71 + 6 * i + k) := ho _ (by omega)
    have e2 : g' 131 k = Dm.1 131 k := congrFun (hf 131 (by decide)) k
    cases b with
    | false =>
      rw [if_neg (by decide), if_pos rfl] at hst
      by_cases hc : Dm.1 120 (71 + 6 * i + k) = Dm.1 131 k
      · rw [if_pos (by rw [e1, e2]; exact hc)] at hst
        exact hw false _ ⟨fun _ => ⟨rfl, hc⟩, fun _ => rfl⟩ hst
      · rw [if_neg (by rw [e1, e2]; exact hc)] at hst
        exact hw true _ ⟨fun z => Bool.noConfusion z, fun z => absurd z.2 hc⟩ hst
    | true =>
      rw [if_pos rfl, if_neg (by decide)] at hst
      exact hw true _ ⟨fun z => Bool.noConfusion z, fun z => Bool.noConfusion z.1⟩ hst) (Dm.1, false, none) ⟨fun _ _ => rfl, fun q hq => absurd hq (Nat.not_lt_zero q), fun _ _ => rfl, fun _ q hq => absurd hq (Nat.not_lt_zero q), fun _ => rfl⟩
  dsimp only at f1 n1 o1 c1 r1
  have hch : b1 = za_ne tk (A i) := by
    have e1 : b1 = false ↔ za_ne tk (A i) = false := by
      rw [c1]
      unfold za_ne
      simp only [Bool.not_eq_false', Bool.and_eq_true, decide_eq_true_eq]
      rw [← zm_t_inj ht hA]
      constructor
      · intro h q hq; rw [← hN q hq, ← h q hq, zM_R_t hR hi hq]
      · intro h q hq; rw [hN q hq, h q hq, zM_R_t hR hi hq]
    cases b1 <;> cases h : za_ne tk (A i) <;> simp_all
  refine ⟨g1, f1, zM_R_mk hR (fun q hq => o1 q (by omega)) (fun j q hj hq => ?_) hT.2.2.1, zs_X9_putChoices_p120 ((zd_X9_putChoices_p120 _ Dm.1 Dm.2 _).trans (r1.trans ?_))⟩
  · by_cases hji : j = i
    · subst hji
      rw [if_pos rfl, n1 q hq]
      exact hN q hq
    · rw [if_neg hji, o1 _ (by omega)]
      exact zM_R_t hR hj hq
  · rw [zd_X9_putChoices_p120_5, if_pos (zi_le 6 6 rfl (by decide) (by decide)), hch]
    cases za_ne tk (A i) <;> rfl
theorem ev_stepOn_120 {dp : Nat} {Dm : zv_D} {T : zT} {X : zX} {A : zA} {i : Nat} (hT : zT_ok T) (hX : zX_ok T X) (hR : zM_R (Dm.1 120) T X A) (hK : zM_K Dm.1 T X) (hW : za_W T A) (hi : i < zT_n T) :
    ∃ g', (∀ x, x ≠ 120 → x ≠ 129 → x ≠ 130 → x ≠ 131 → g' x = Dm.1 x) ∧ zM_R (g' 120) T X (za_st T X A i) ∧ zv_ev (dp + 6) 168 [.ref 116, .ref 120, .int (nI i)] zS0 Dm = zo_i (if za_ch T X A i = true then 1 else 0) (g', Dm.2) := by
  have h5 := hT.2.1
  obtain ⟨g1, f1, n1, r1⟩ := ev_mtake_120 (dp := dp) (Dm := (Dm.1, Dm.2)) hT hX hR hK hW hi
  dsimp only at f1 r1
  obtain ⟨g2, f2, R2, r2⟩ := ev_putChoices_120 (dp := dp + 4) (Dm := (g1, Dm.2)) (A := A) (X := X) hT (by dsimp only; rw [f1 120 (by decide) (by decide) (by decide)]; exact hR) n1 (by omega) (fun k _ => za_de_R hT hW hi k) (fun k _ => hW.1 i k)
  dsimp only at f2 r2
  have hst := zd_X9_stepOn_p120 (zv_ev (dp + 5)) Dm.1 Dm.2 (nI i)
  rw [r1] at hst
  simp only [Option.bind_some] at hst
  rw [r2] at hst
  simp only [Option.bind_some] at hst
  refine ⟨g2, fun x h1 h2 h3 h4 => (f2 x h1).trans (f1 x h2 h3 h4), R2, zs_X9_stepOn_p120 (hst.trans ?_)⟩
  show _ = zv_ri (if za_ne (za_de T X A i) (A i) = true then 1 else 0) zS0 (g2, Dm.2)
  cases za_ne (za_de T X A i) (A i) <;> rfl
theorem ev_putChoices_121 {dp : Nat} {Dm : zv_D} {T : zT} {X : zX} {A : zA} {i : Nat} {tk : Nat → Nat} (hT : zT_ok T) (hR : zM_R (Dm.1 121) T X A) (hN : zM_N Dm.1 tk) (hi : i < 5) (ht : ∀ k, k < 2 → za_R T i (tk k)) (hA : ∀ k, k < 2 → za_R T i (A i k)) :
    ∃ g', (∀ x, x ≠ 121 → g' x = Dm.1 x) ∧ zM_R (g' 121) T X (fun j => if j = i then tk else A j) ∧ zv_ev (dp + 1) 167 [.ref 116, .ref 121, .int (nI i)] zS0 Dm = zo_i (if za_ne tk (A i) = true then 1 else 0) (g', Dm.2) := by
  obtain ⟨⟨g1, b1, u1⟩, ⟨f1, n1, o1, c1⟩, r1⟩ := zl_up (σ := (Nat → Nat → Int32) × Bool × Option Value) (fun k s => zv_m zt_X9_putChoices (zv_ev dp) true 5 [some (.ref 116), some (.ref 121), some (.int (nI i)), some (.int (if s.2.1 = true then 1 else 0)), some (.int (nI k)), s.2.2] [] zS0 (s.1, Dm.2)) 6 (fun k s => (∀ x, x ≠ 121 → s.1 x = Dm.1 x) ∧ (∀ q, q < k → s.1 121 (71 + 6 * i + q) = Dm.1 131 q) ∧ (∀ q, q < 71 + 6 * i ∨ 71 + 6 * i + k ≤ q → s.1 121 q = Dm.1 121 q) ∧ (s.2.1 = false ↔ ∀ q, q < k → Dm.1 121 (71 + 6 * i + q) = Dm.1 131 q)) (by
    rintro k ⟨g', b, u⟩ hk ⟨hf, hn, ho, hb⟩
    dsimp only at hf hn ho hb
    have hst := zd_X9_putChoices_p121_5 (zv_ev dp) g' Dm.2 (nI i) (if b = true then 1 else 0) (nI k) u
    rw [if_neg (zi_ge 6 6 rfl hk (by decide)), zx_71, zi_in (n := 101) (by omega) (by decide), zi_in hk (by decide), nI_clamp (by omega), nI_clamp (by omega), nI_1] at hst
    simp only [cond_true] at hst
    have hw : ∀ (b' : Bool) (u' : Option Value), (b' = false ↔ b = false ∧ Dm.1 121 (71 + 6 * i + k) = Dm.1 131 k) → zv_m zt_X9_putChoices (zv_ev dp) true 5 [some (.ref 116), some (.ref 121), some (.int (nI i)), some (.int (if b = true then 1 else 0)), some (.int (nI k)), u] [] zS0 (g', Dm.2) = zv_m zt_X9_putChoices (zv_ev dp) true 5 [some (.ref 116), some (.ref 121), some (.int (nI i)), some (.int (if b' = true then 1 else 0)), some (.int (nI (k + 1))), u'] [] zS0 (zv_w g' 121 (71 + 6 * i + k) (g' 131 k), Dm.2) → ∃ s' : (Nat → Nat → Int32) × Bool × Option Value, ((∀ x, x ≠ 121 → s'.1 x = Dm.1 x) ∧ (∀ q, q < k + 1 → s'.1 121 (71 + 6 * i + q) = Dm.1 131 q) ∧ (∀ q, q < 71 + 6 * i ∨ 71 + 6 * i + (k + 1) ≤ q → s'.1 121 q = Dm.1 121 q) ∧ (s'.2.1 = false ↔ ∀ q, q < k + 1 → Dm.1 121 (71 + 6 * i + q) = Dm.1 131 q)) ∧ zv_m zt_X9_putChoices (zv_ev dp) true 5 [some (.ref 116), some (.ref 121), some (.int (nI i)), some (.int (if b = true then 1 else 0)), some (.int (nI k)), u] [] zS0 (g', Dm.2) = zv_m zt_X9_putChoices (zv_ev dp) true 5 [some (.ref 116), some (.ref 121), some (.int (nI i)), some (.int (if s'.2.1 = true then 1 else 0)), some (.int (nI (k + 1))), s'.2.2] [] zS0 (s'.1, Dm.2) := by
      intro b' u' hb' hz
      refine ⟨(zv_w g' 121 (71 + 6 * i + k) (g' 131 k), b', u'), ⟨fun x hx => (zw_cell _ _ _ hx).trans (hf x hx), fun q hq => ?_, fun q hq => ?_, ?_⟩, hz⟩
      · by_cases hqk : q = k
        · subst hqk; dsimp only; rw [zw_same, hf 131 (by decide)]
        · dsimp only; rw [zw_other _ _ _ (by omega)]; exact hn q (by omega)
      · dsimp only; rw [zw_other _ _ _ (by omega)]; exact ho q (by omega)
      · dsimp only
        rw [hb', hb]
        constructor
        · rintro ⟨q1, q2⟩ q hq
          by_cases hqk : q = k
          · subst hqk; exact q2
          · exact q1 q (by omega)
        · intro q1
          exact ⟨fun q hq => q1 q (by omega), q1 k (by omega)⟩
    have e1 : g' 121 (71 + 6 * i + k) = Dm.1 121 (71 + 6 * i + k) := ho _ (by omega)
    have e2 : g' 131 k = Dm.1 131 k := congrFun (hf 131 (by decide)) k
    cases b with
    | false =>
      rw [if_neg (by decide), if_pos rfl] at hst
      by_cases hc : Dm.1 121 (71 + 6 * i + k) = Dm.1 131 k
      · rw [if_pos (by rw [e1, e2]; exact hc)] at hst
        exact hw false _ ⟨fun _ => ⟨rfl, hc⟩, fun _ => rfl⟩ hst
      · rw [if_neg (by rw [e1, e2]; exact hc)] at hst
        exact hw true _ ⟨fun z => Bool.noConfusion z, fun z => absurd z.2 hc⟩ hst
    | true =>
      rw [if_pos rfl, if_neg (by decide)] at hst
      exact hw true _ ⟨fun z => Bool.noConfusion z, fun z => Bool.noConfusion z.1⟩ hst) (Dm.1, false, none) ⟨fun _ _ => rfl, fun q hq => absurd hq (Nat.not_lt_zero q), fun _ _ => rfl, fun _ q hq => absurd hq (Nat.not_lt_zero q), fun _ => rfl⟩
  dsimp only at f1 n1 o1 c1 r1
  have hch : b1 = za_ne tk (A i) := by
    have e1 : b1 = false ↔ za_ne tk (A i) = false := by
      rw [c1]
      unfold za_ne
      simp only [Bool.not_eq_false', Bool.and_eq_true, decide_eq_true_eq]
      rw [← zm_t_inj ht hA]
      constructor
      · intro h q hq; rw [← hN q hq, ← h q hq, zM_R_t hR hi hq]
      · intro h q hq; rw [hN q hq, h q hq, zM_R_t hR hi hq]
    cases b1 <;> cases h : za_ne tk (A i) <;> simp_all
  refine ⟨g1, f1, zM_R_mk hR (fun q hq => o1 q (by omega)) (fun j q hj hq => ?_) hT.2.2.1, zs_X9_putChoices_p121 ((zd_X9_putChoices_p121 _ Dm.1 Dm.2 _).trans (r1.trans ?_))⟩
  · by_cases hji : j = i
    · subst hji
      rw [if_pos rfl, n1 q hq]
      exact hN q hq
    · rw [if_neg hji, o1 _ (by omega)]
      exact zM_R_t hR hj hq
  · rw [zd_X9_putChoices_p121_5, if_pos (zi_le 6 6 rfl (by decide) (by decide)), hch]
    cases za_ne tk (A i) <;> rfl
theorem ev_stepOn_121 {dp : Nat} {Dm : zv_D} {T : zT} {X : zX} {A : zA} {i : Nat} (hT : zT_ok T) (hX : zX_ok T X) (hR : zM_R (Dm.1 121) T X A) (hK : zM_K Dm.1 T X) (hW : za_W T A) (hi : i < zT_n T) :
    ∃ g', (∀ x, x ≠ 121 → x ≠ 129 → x ≠ 130 → x ≠ 131 → g' x = Dm.1 x) ∧ zM_R (g' 121) T X (za_st T X A i) ∧ zv_ev (dp + 6) 168 [.ref 116, .ref 121, .int (nI i)] zS0 Dm = zo_i (if za_ch T X A i = true then 1 else 0) (g', Dm.2) := by
  have h5 := hT.2.1
  obtain ⟨g1, f1, n1, r1⟩ := ev_mtake_121 (dp := dp) (Dm := (Dm.1, Dm.2)) hT hX hR hK hW hi
  dsimp only at f1 r1
  obtain ⟨g2, f2, R2, r2⟩ := ev_putChoices_121 (dp := dp + 4) (Dm := (g1, Dm.2)) (A := A) (X := X) hT (by dsimp only; rw [f1 121 (by decide) (by decide) (by decide)]; exact hR) n1 (by omega) (fun k _ => za_de_R hT hW hi k) (fun k _ => hW.1 i k)
  dsimp only at f2 r2
  have hst := zd_X9_stepOn_p121 (zv_ev (dp + 5)) Dm.1 Dm.2 (nI i)
  rw [r1] at hst
  simp only [Option.bind_some] at hst
  rw [r2] at hst
  simp only [Option.bind_some] at hst
  refine ⟨g2, fun x h1 h2 h3 h4 => (f2 x h1).trans (f1 x h2 h3 h4), R2, zs_X9_stepOn_p121 (hst.trans ?_)⟩
  show _ = zv_ri (if za_ne (za_de T X A i) (A i) = true then 1 else 0) zS0 (g2, Dm.2)
  cases za_ne (za_de T X A i) (A i) <;> rfl
theorem ev_roundOn_119 {dp : Nat} {Dm : zv_D} {T : zT} {X : zX} {A : zA} (hT : zT_ok T) (hX : zX_ok T X) (hR : zM_R (Dm.1 119) T X A) (hK : zM_K Dm.1 T X) (hW : za_W T A) :
    ∃ g', (∀ x, x ≠ 119 → x ≠ 129 → x ≠ 130 → x ≠ 131 → x ≠ 132 → g' x = Dm.1 x) ∧ zM_R (g' 119) T X (za_rd T X A) ∧ zv_ev (dp + 6) 169 [.ref 116, .ref 119] zS0 Dm = zo_i (nI (za_cn T X A (zT_n T))) (g', Dm.2) := by
  have h5 := hT.2.1
  have c0 : Dm.1 119 0 = nI (zT_n T) := hR.1
  obtain ⟨⟨g1, u1⟩, ⟨f1, n1⟩, r1⟩ := zl_up (σ := (Nat → Nat → Int32) × Option Value) (fun i s => zv_m zt_X9_roundOn (zv_ev (dp + 5)) false 2 [some (.ref 116), some (.ref 119), some (.int (nI i)), s.2, none] [] zS0 (s.1, Dm.2)) (zT_n T) (fun i s => (∀ x, x ≠ 129 → x ≠ 130 → x ≠ 131 → x ≠ 132 → s.1 x = Dm.1 x) ∧ ∀ j q, j < i → q < 6 → s.1 132 (6 * j + q) = zm_t (za_de T X A j) q) (by
    rintro i ⟨g', u⟩ hi ⟨hf, hn⟩
    dsimp only at hf hn
    have hpage : g' 119 = Dm.1 119 := hf 119 (by decide) (by decide) (by decide) (by decide)
    obtain ⟨g2, f2, n2, r2⟩ := ev_mtake_119 (dp := dp) (Dm := (g', Dm.2)) (A := A) (X := X) hT hX (by dsimp only; rw [hpage]; exact hR) (fun a b ha hb => (congrFun (hf 128 (by decide) (by decide) (by decide) (by decide)) _).trans (hK a b ha hb)) hW hi
    dsimp only at f2 r2
    obtain ⟨g3, ⟨f3, n3, o3⟩, r3⟩ := zl_up (fun k (s : Nat → Nat → Int32) => zv_m zt_X9_roundOn (zv_ev (dp + 5)) false 17 [some (.ref 116), some (.ref 119), some (.int (nI i)), some (.int (nI k)), none] [] zS0 (s, Dm.2)) 6 (fun k s => (∀ x, x ≠ 132 → s x = g2 x) ∧ (∀ q, q < k → s 132 (6 * i + q) = g2 131 q) ∧ ∀ q, q < 6 * i ∨ 6 * i + k ≤ q → s 132 q = g2 132 q) (by
      intro k s hk ⟨hf', hn', ho'⟩
      have hst := zd_X9_roundOn_p119_17 (zv_ev (dp + 5)) s Dm.2 (nI i) (nI k) none
      rw [if_neg (zi_ge 6 6 rfl hk (by decide)), zx_6, zi_in hk (by decide), zi_in (n := 30) (by omega) (by decide), nI_clamp (by omega), nI_clamp (by omega), nI_1] at hst
      refine ⟨_, ⟨fun x hx => (zw_cell _ _ _ hx).trans (hf' x hx), fun q hq => ?_, fun q hq => ?_⟩, hst⟩
      · by_cases hqk : q = k
        · subst hqk; rw [zw_same, hf' 131 (by decide)]
        · rw [zw_other _ _ _ (by omega)]; exact hn' q (by omega)
      · rw [zw_other _ _ _ (by omega)]; exact ho' q (by omega)) g2 ⟨fun _ _ => rfl, fun q hq => absurd hq (Nat.not_lt_zero q), fun _ _ => rfl⟩
    have hst := zd_X9_roundOn_p119_2 (zv_ev (dp + 5)) g' Dm.2 (nI i) u none
    rw [hpage, c0, if_neg (nI_ge hi (by omega)), r2] at hst
    simp only [Option.bind_some] at hst
    have hst2 := zd_X9_roundOn_p119_17 (zv_ev (dp + 5)) g3 Dm.2 (nI i) (nI 6) none
    rw [if_pos (zi_le 6 6 rfl (by decide) (by decide)), nI_1] at hst2
    refine ⟨(g3, _), ⟨fun x h1 h2 h3 h4 => (f3 x h4).trans ((f2 x h1 h2 h3).trans (hf x h1 h2 h3 h4)), fun j q hj hq => ?_⟩, hst.trans (r3.trans hst2)⟩
    by_cases hji : j = i
    · subst hji; dsimp only; rw [n3 q hq]; exact n2 q hq
    · dsimp only; rw [o3 _ (by omega), f2 132 (by decide) (by decide) (by decide)]; exact hn j q (by omega) hq) (Dm.1, none) ⟨fun _ _ _ _ _ => rfl, fun j q hj => absurd hj (Nat.not_lt_zero j)⟩
  dsimp only at f1 n1 r1
  obtain ⟨⟨g4, u4⟩, ⟨f4, R4⟩, r4⟩ := zl_up (σ := (Nat → Nat → Int32) × Option Value) (fun i s => zv_m zt_X9_roundOn (zv_ev (dp + 5)) false 56 [some (.ref 116), some (.ref 119), some (.int (nI (za_cn T X A i))), some (.int (nI i)), s.2] [] zS0 (s.1, Dm.2)) (zT_n T) (fun i s => (∀ x, x ≠ 119 → x ≠ 131 → s.1 x = g1 x) ∧ zM_R (s.1 119) T X (fun j => if j < i then za_de T X A j else A j)) (by
    rintro i ⟨g', u⟩ hi ⟨hf, hR'⟩
    dsimp only at hf hR'
    obtain ⟨g2, ⟨f2, n2⟩, r2⟩ := zl_up (fun k (s : Nat → Nat → Int32) => zv_m zt_X9_roundOn (zv_ev (dp + 5)) false 66 [some (.ref 116), some (.ref 119), some (.int (nI (za_cn T X A i))), some (.int (nI i)), some (.int (nI k))] [] zS0 (s, Dm.2)) 6 (fun k s => (∀ x, x ≠ 131 → s x = g' x) ∧ (∀ q, q < k → s 131 q = g' 132 (6 * i + q))) (by
      intro k s hk ⟨hf', hn'⟩
      have hst := zd_X9_roundOn_p119_66 (zv_ev (dp + 5)) s Dm.2 (nI (za_cn T X A i)) (nI i) (nI k)
      rw [if_neg (zi_ge 6 6 rfl hk (by decide)), zx_6, zi_in hk (by decide), zi_in (n := 30) (by omega) (by decide), nI_clamp (by omega), nI_clamp (by omega), nI_1] at hst
      refine ⟨_, ⟨fun x hx => (zw_cell _ _ _ hx).trans (hf' x hx), fun q hq => ?_⟩, hst⟩
      by_cases hqk : q = k
      · subst hqk; rw [zw_same, hf' 132 (by decide)]
      · rw [zw_other _ _ _ (by omega)]; exact hn' q (by omega)) g' ⟨fun _ _ => rfl, fun q hq => absurd hq (Nat.not_lt_zero q)⟩
    have hAi : (if i < i then za_de T X A i else A i) = A i := if_neg (Nat.lt_irrefl i)
    obtain ⟨g3, f3, R3, r3⟩ := ev_putChoices_119 (dp := dp + 4) (Dm := (g2, Dm.2)) (A := fun j => if j < i then za_de T X A j else A j) (X := X) (i := i) (tk := za_de T X A i) hT (by dsimp only; rw [f2 119 (by decide)]; exact hR') (fun q hq => by dsimp only; rw [n2 q hq, hf 132 (by decide) (by decide)]; exact n1 i q hi hq) (by omega) (fun k _ => za_de_R hT hW hi k) (fun k _ => by rw [hAi]; exact hW.1 i k)
    rw [hAi] at r3
    dsimp only at f3 r3
    have hst := zd_X9_roundOn_p119_56 (zv_ev (dp + 5)) g' Dm.2 (nI (za_cn T X A i)) (nI i) u
    have hn0 : g' 119 0 = nI (zT_n T) := hR'.1
    rw [hn0, if_neg (nI_ge hi (by omega))] at hst
    have hst2 := zd_X9_roundOn_p119_66 (zv_ev (dp + 5)) g2 Dm.2 (nI (za_cn T X A i)) (nI i) (nI 6)
    rw [if_pos (zi_le 6 6 rfl (by decide) (by decide)), r3, nI_1] at hst2
    simp only [Option.bind_some] at hst2
    refine ⟨(g3, some (.int (nI 6))), ⟨fun x h1 h2 => (f3 x h1).trans ((f2 x h2).trans (hf x h1 h2)), ?_⟩, hst.trans (r2.trans (hst2.trans ?_))⟩
    · have e : (fun j => if j = i then za_de T X A i else (fun j => if j < i then za_de T X A j else A j) j) = fun j => if j < i + 1 then za_de T X A j else A j := by
        funext j
        by_cases hji : j = i
        · subst hji; rw [if_pos rfl, if_pos (by omega)]
        · rw [if_neg hji]
          by_cases hlt : j < i
          · rw [if_pos (by omega)]; exact if_pos hlt
          · rw [if_neg (by omega)]; exact if_neg hlt
      rw [← e]
      exact R3
    · show _ = zv_m zt_X9_roundOn (zv_ev (dp + 5)) false 56 [some (.ref 116), some (.ref 119), some (.int (nI (za_cn T X A i + (if za_ne (za_de T X A i) (A i) = true then 1 else 0)))), some (.int (nI (i + 1))), some (.int (nI 6))] [] zS0 (g3, Dm.2)
      by_cases hb : za_ne (za_de T X A i) (A i) = true
      · rw [if_pos hb, if_neg (by decide), if_pos hb, nI_1]
      · rw [if_neg hb, if_pos rfl, if_neg hb, Int32.add_zero]; all_goals rfl) (g1, none) ⟨fun _ _ _ => rfl, by
        have e : (fun j => if j < 0 then za_de T X A j else A j) = A := by
          funext j; exact if_neg (Nat.not_lt_zero j)
        rw [e]
        dsimp only
        rw [f1 119 (by decide) (by decide) (by decide) (by decide)]
        exact hR⟩
  dsimp only at f4 R4 r4
  refine ⟨g4, fun x h0 h1 h2 h3 h4 => (f4 x h0 h3).trans (f1 x h1 h2 h3 h4), R4, zs_X9_roundOn_p119 ((zd_X9_roundOn_p119 _ Dm.1 Dm.2).trans (r1.trans ?_))⟩
  rw [zd_X9_roundOn_p119_2, f1 119 (by decide) (by decide) (by decide) (by decide), c0, if_pos (nI_le (Nat.le_refl _) (by omega))]
  refine r4.trans ?_
  have c4 : g4 119 0 = nI (zT_n T) := R4.1
  rw [zd_X9_roundOn_p119_56, c4, if_pos (nI_le (Nat.le_refl _) (by omega))]
theorem ev_roundOn_121 {dp : Nat} {Dm : zv_D} {T : zT} {X : zX} {A : zA} (hT : zT_ok T) (hX : zX_ok T X) (hR : zM_R (Dm.1 121) T X A) (hK : zM_K Dm.1 T X) (hW : za_W T A) :
    ∃ g', (∀ x, x ≠ 121 → x ≠ 129 → x ≠ 130 → x ≠ 131 → x ≠ 132 → g' x = Dm.1 x) ∧ zM_R (g' 121) T X (za_rd T X A) ∧ zv_ev (dp + 6) 169 [.ref 116, .ref 121] zS0 Dm = zo_i (nI (za_cn T X A (zT_n T))) (g', Dm.2) := by
  have h5 := hT.2.1
  have c0 : Dm.1 121 0 = nI (zT_n T) := hR.1
  obtain ⟨⟨g1, u1⟩, ⟨f1, n1⟩, r1⟩ := zl_up (σ := (Nat → Nat → Int32) × Option Value) (fun i s => zv_m zt_X9_roundOn (zv_ev (dp + 5)) false 2 [some (.ref 116), some (.ref 121), some (.int (nI i)), s.2, none] [] zS0 (s.1, Dm.2)) (zT_n T) (fun i s => (∀ x, x ≠ 129 → x ≠ 130 → x ≠ 131 → x ≠ 132 → s.1 x = Dm.1 x) ∧ ∀ j q, j < i → q < 6 → s.1 132 (6 * j + q) = zm_t (za_de T X A j) q) (by
    rintro i ⟨g', u⟩ hi ⟨hf, hn⟩
    dsimp only at hf hn
    have hpage : g' 121 = Dm.1 121 := hf 121 (by decide) (by decide) (by decide) (by decide)
    obtain ⟨g2, f2, n2, r2⟩ := ev_mtake_121 (dp := dp) (Dm := (g', Dm.2)) (A := A) (X := X) hT hX (by dsimp only; rw [hpage]; exact hR) (fun a b ha hb => (congrFun (hf 128 (by decide) (by decide) (by decide) (by decide)) _).trans (hK a b ha hb)) hW hi
    dsimp only at f2 r2
    obtain ⟨g3, ⟨f3, n3, o3⟩, r3⟩ := zl_up (fun k (s : Nat → Nat → Int32) => zv_m zt_X9_roundOn (zv_ev (dp + 5)) false 17 [some (.ref 116), some (.ref 121), some (.int (nI i)), some (.int (nI k)), none] [] zS0 (s, Dm.2)) 6 (fun k s => (∀ x, x ≠ 132 → s x = g2 x) ∧ (∀ q, q < k → s 132 (6 * i + q) = g2 131 q) ∧ ∀ q, q < 6 * i ∨ 6 * i + k ≤ q → s 132 q = g2 132 q) (by
      intro k s hk ⟨hf', hn', ho'⟩
      have hst := zd_X9_roundOn_p121_17 (zv_ev (dp + 5)) s Dm.2 (nI i) (nI k) none
      rw [if_neg (zi_ge 6 6 rfl hk (by decide)), zx_6, zi_in hk (by decide), zi_in (n := 30) (by omega) (by decide), nI_clamp (by omega), nI_clamp (by omega), nI_1] at hst
      refine ⟨_, ⟨fun x hx => (zw_cell _ _ _ hx).trans (hf' x hx), fun q hq => ?_, fun q hq => ?_⟩, hst⟩
      · by_cases hqk : q = k
        · subst hqk; rw [zw_same, hf' 131 (by decide)]
        · rw [zw_other _ _ _ (by omega)]; exact hn' q (by omega)
      · rw [zw_other _ _ _ (by omega)]; exact ho' q (by omega)) g2 ⟨fun _ _ => rfl, fun q hq => absurd hq (Nat.not_lt_zero q), fun _ _ => rfl⟩
    have hst := zd_X9_roundOn_p121_2 (zv_ev (dp + 5)) g' Dm.2 (nI i) u none
    rw [hpage, c0, if_neg (nI_ge hi (by omega)), r2] at hst
    simp only [Option.bind_some] at hst
    have hst2 := zd_X9_roundOn_p121_17 (zv_ev (dp + 5)) g3 Dm.2 (nI i) (nI 6) none
    rw [if_pos (zi_le 6 6 rfl (by decide) (by decide)), nI_1] at hst2
    refine ⟨(g3, _), ⟨fun x h1 h2 h3 h4 => (f3 x h4).trans ((f2 x h1 h2 h3).trans (hf x h1 h2 h3 h4)), fun j q hj hq => ?_⟩, hst.trans (r3.trans hst2)⟩
    by_cases hji : j = i
    · subst hji; dsimp only; rw [n3 q hq]; exact n2 q hq
    · dsimp only; rw [o3 _ (by omega), f2 132 (by decide) (by decide) (by decide)]; exact hn j q (by omega) hq) (Dm.1, none) ⟨fun _ _ _ _ _ => rfl, fun j q hj => absurd hj (Nat.not_lt_zero j)⟩
  dsimp only at f1 n1 r1
  obtain ⟨⟨g4, u4⟩, ⟨f4, R4⟩, r4⟩ := zl_up (σ := (Nat → Nat → Int32) × Option Value) (fun i s => zv_m zt_X9_roundOn (zv_ev (dp + 5)) false 56 [some (.ref 116), some (.ref 121), some (.int (nI (za_cn T X A i))), some (.int (nI i)), s.2] [] zS0 (s.1, Dm.2)) (zT_n T) (fun i s => (∀ x, x ≠ 121 → x ≠ 131 → s.1 x = g1 x) ∧ zM_R (s.1 121) T X (fun j => if j < i then za_de T X A j else A j)) (by
    rintro i ⟨g', u⟩ hi ⟨hf, hR'⟩
    dsimp only at hf hR'
    obtain ⟨g2, ⟨f2, n2⟩, r2⟩ := zl_up (fun k (s : Nat → Nat → Int32) => zv_m zt_X9_roundOn (zv_ev (dp + 5)) false 66 [some (.ref 116), some (.ref 121), some (.int (nI (za_cn T X A i))), some (.int (nI i)), some (.int (nI k))] [] zS0 (s, Dm.2)) 6 (fun k s => (∀ x, x ≠ 131 → s x = g' x) ∧ (∀ q, q < k → s 131 q = g' 132 (6 * i + q))) (by
      intro k s hk ⟨hf', hn'⟩
      have hst := zd_X9_roundOn_p121_66 (zv_ev (dp + 5)) s Dm.2 (nI (za_cn T X A i)) (nI i) (nI k)
      rw [if_neg (zi_ge 6 6 rfl hk (by decide)), zx_6, zi_in hk (by decide), zi_in (n := 30) (by omega) (by decide), nI_clamp (by omega), nI_clamp (by omega), nI_1] at hst
      refine ⟨_, ⟨fun x hx => (zw_cell _ _ _ hx).trans (hf' x hx), fun q hq => ?_⟩, hst⟩
      by_cases hqk : q = k
      · subst hqk; rw [zw_same, hf' 132 (by decide)]
      · rw [zw_other _ _ _ (by omega)]; exact hn' q (by omega)) g' ⟨fun _ _ => rfl, fun q hq => absurd hq (Nat.not_lt_zero q)⟩
    have hAi : (if i < i then za_de T X A i else A i) = A i := if_neg (Nat.lt_irrefl i)
    obtain ⟨g3, f3, R3, r3⟩ := ev_putChoices_121 (dp := dp + 4) (Dm := (g2, Dm.2)) (A := fun j => if j < i then za_de T X A j else A j) (X := X) (i := i) (tk := za_de T X A i) hT (by dsimp only; rw [f2 121 (by decide)]; exact hR') (fun q hq => by dsimp only; rw [n2 q hq, hf 132 (by decide) (by decide)]; exact n1 i q hi hq) (by omega) (fun k _ => za_de_R hT hW hi k) (fun k _ => by rw [hAi]; exact hW.1 i k)
    rw [hAi] at r3
    dsimp only at f3 r3
    have hst := zd_X9_roundOn_p121_56 (zv_ev (dp + 5)) g' Dm.2 (nI (za_cn T X A i)) (nI i) u
    have hn0 : g' 121 0 = nI (zT_n T) := hR'.1
    rw [hn0, if_neg (nI_ge hi (by omega))] at hst
    have hst2 := zd_X9_roundOn_p121_66 (zv_ev (dp + 5)) g2 Dm.2 (nI (za_cn T X A i)) (nI i) (nI 6)
    rw [if_pos (zi_le 6 6 rfl (by decide) (by decide)), r3, nI_1] at hst2
    simp only [Option.bind_some] at hst2
    refine ⟨(g3, some (.int (nI 6))), ⟨fun x h1 h2 => (f3 x h1).trans ((f2 x h2).trans (hf x h1 h2)), ?_⟩, hst.trans (r2.trans (hst2.trans ?_))⟩
    · have e : (fun j => if j = i then za_de T X A i else (fun j => if j < i then za_de T X A j else A j) j) = fun j => if j < i + 1 then za_de T X A j else A j := by
        funext j
        by_cases hji : j = i
        · subst hji; rw [if_pos rfl, if_pos (by omega)]
        · rw [if_neg hji]
          by_cases hlt : j < i
          · rw [if_pos (by omega)]; exact if_pos hlt
          · rw [if_neg (by omega)]; exact if_neg hlt
      rw [← e]
      exact R3
    · show _ = zv_m zt_X9_roundOn (zv_ev (dp + 5)) false 56 [some (.ref 116), some (.ref 121), some (.int (nI (za_cn T X A i + (if za_ne (za_de T X A i) (A i) = true then 1 else 0)))), some (.int (nI (i + 1))), some (.int (nI 6))] [] zS0 (g3, Dm.2)
      by_cases hb : za_ne (za_de T X A i) (A i) = true
      · rw [if_pos hb, if_neg (by decide), if_pos hb, nI_1]
      · rw [if_neg hb, if_pos rfl, if_neg hb, Int32.add_zero]; all_goals rfl) (g1, none) ⟨fun _ _ _ => rfl, by
        have e : (fun j => if j < 0 then za_de T X A j else A j) = A := by
          funext j; exact if_neg (Nat.not_lt_zero j)
        rw [e]
        dsimp only
        rw [f1 121 (by decide) (by decide) (by decide) (by decide)]
        exact hR⟩
  dsimp only at f4 R4 r4
  refine ⟨g4, fun x h0 h1 h2 h3 h4 => (f4 x h0 h3).trans (f1 x h1 h2 h3 h4), R4, zs_X9_roundOn_p121 ((zd_X9_roundOn_p121 _ Dm.1 Dm.2).trans (r1.trans ?_))⟩
  rw [zd_X9_roundOn_p121_2, f1 121 (by decide) (by decide) (by decide) (by decide), c0, if_pos (nI_le (Nat.le_refl _) (by omega))]
  refine r4.trans ?_
  have c4 : g4 121 0 = nI (zT_n T) := R4.1
  rw [zd_X9_roundOn_p121_56, c4, if_pos (nI_le (Nat.le_refl _) (by omega))]
