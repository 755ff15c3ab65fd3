/-! ===== Shapley values ===== -/
/-- what comes of a set, as class and reference count it -/
def zs_gf (m e s : Nat) : Int := if s.testBit e = true then (za_fa (za_pc s - 1) * za_fa (m - za_pc s) : Nat) else -((za_fa (za_pc s) * za_fa (m - 1 - za_pc s) : Nat) : Int)
def zs_c (m e : Nat) (w : Nat → Nat) : Nat → Int
  | 0 => 0
  | k + 1 => zs_c m e w k + (w k : Int) * zs_gf m e k
def zs_m (m e : Nat) (w : Nat → Nat) : Nat → Int
  | 0 => 0
  | k + 1 => zs_m m e w k + (if k.testBit e = true then 0 else ((za_fa (za_pc k) * za_fa (m - 1 - za_pc k) : Nat) : Int) * ((w (k ||| 2 ^ e) : Int) - (w k : Int)))
theorem zs_same (w : Nat → Nat) {m e : Nat} (hm : m ≤ 4) (he : e < m) : zs_c m e w (2 ^ m) = zs_m m e w (2 ^ m) := by
  have h : (m = 1 ∧ e = 0) ∨ (m = 2 ∧ e = 0) ∨ (m = 2 ∧ e = 1) ∨ (m = 3 ∧ e = 0) ∨ (m = 3 ∧ e = 1) ∨ (m = 3 ∧ e = 2) ∨ (m = 4 ∧ e = 0) ∨ (m = 4 ∧ e = 1) ∨ (m = 4 ∧ e = 2) ∨ (m = 4 ∧ e = 3) := by omega
  rcases h with ⟨rfl, rfl⟩ | ⟨rfl, rfl⟩ | ⟨rfl, rfl⟩ | ⟨rfl, rfl⟩ | ⟨rfl, rfl⟩ | ⟨rfl, rfl⟩ | ⟨rfl, rfl⟩ | ⟨rfl, rfl⟩ | ⟨rfl, rfl⟩ | ⟨rfl, rfl⟩
  all_goals
    simp [zs_c, zs_m, zs_gf, za_fa, za_pc, Nat.testBit]
    omega
theorem zs_gf_1 : ∀ m, m ≤ 4 → ∀ e, e < m → ∀ s, s < 2 ^ m → (zs_gf m e s).natAbs ≤ 24 := by decide +kernel
theorem zs_gf_2 : ∀ m, m ≤ 4 → ∀ e, e < m → ∀ s, s < 2 ^ m → s.testBit e = true → 1 ≤ za_pc s ∧ za_pc s ≤ m := by decide +kernel
theorem zs_gf_3 : ∀ m, m ≤ 4 → ∀ e, e < m → ∀ s, s < 2 ^ m → s.testBit e = false → za_pc s ≤ m - 1 := by decide +kernel
theorem zs_gf_b (m : Nat) (hm : m ≤ 4) (e : Nat) (he : e < m) (s : Nat) (hs : s < 2 ^ m) : (zs_gf m e s).natAbs ≤ 24 ∧ (s.testBit e = true → 1 ≤ za_pc s ∧ za_pc s ≤ m) ∧ (s.testBit e = false → za_pc s ≤ m - 1) := ⟨zs_gf_1 m hm e he s hs, zs_gf_2 m hm e he s hs, zs_gf_3 m hm e he s hs⟩
theorem zs_c_b (w : Nat → Nat) (hw : ∀ k, w k ≤ 5) {m e : Nat} (hm : m ≤ 4) (he : e < m) : ∀ k, k ≤ 2 ^ m → (zs_c m e w k).natAbs ≤ 120 * k := by
  intro k
  induction k with
  | zero => intro _; exact Nat.le_refl _
  | succ k ih =>
    intro hk
    have h1 := ih (by omega)
    have h2 := (zs_gf_b m hm e he k (by omega)).1
    have h3 : ((w k : Int) * zs_gf m e k).natAbs ≤ 5 * 24 := by
      rw [Int.natAbs_mul]
      exact Nat.mul_le_mul (by simpa using hw k) h2
    have h4 := Int.natAbs_add_le (zs_c m e w k) ((w k : Int) * zs_gf m e k)
    show (zs_c m e w k + (w k : Int) * zs_gf m e k).natAbs ≤ _
    omega
theorem zi_abs {z : Int} (hz : z.natAbs < 2 ^ 31) : (if 0 ≤ Int32.ofInt z then Int32.ofInt z else -Int32.ofInt z) = nI z.natAbs := by
  have ht : (Int32.ofInt z).toInt = z := Int32.toInt_ofInt_of_le (by omega) (by omega)
  by_cases h0 : 0 ≤ z
  · rw [if_pos (by rw [Int32.le_iff_toInt_le, ht]; exact h0)]
    obtain ⟨n, rfl⟩ := Int.eq_ofNat_of_zero_le h0
    exact Int32.ofInt_eq_ofNat
  · rw [if_neg (by rw [Int32.le_iff_toInt_le, ht]; exact h0), ← Int32.ofInt_neg, show -z = ((z.natAbs : Nat) : Int) by omega]
    exact Int32.ofInt_eq_ofNat
/-- the exits of first routes -/
def za_ce (A : zA) : Nat → Nat
  | 0 => 0
  | k + 1 => za_ce A k ||| (if A k 0 = 0 then 0 else 2 ^ zc_e (A k 0))
theorem za_ce_lt (A : zA) : ∀ k, za_ce A k < 16 := by
  intro k
  induction k with
  | zero => exact (by decide : (0 : Nat) < 16)
  | succ k ih =>
    refine Nat.or_lt_two_pow (n := 4) ih ?_
    split
    · decide
    · exact z2k (zc_e_lt _)
theorem za_ce_n {T : zT} {A : zA} (hW : za_W T A) : ∀ k, zT_n T ≤ k → za_ce A k = za_ce A (zT_n T) := by
  intro k hk
  induction k with
  | zero => rw [show zT_n T = 0 by omega]
  | succ k ih =>
    by_cases h : zT_n T = k + 1
    · rw [h]
    · show za_ce A k ||| (if A k 0 = 0 then 0 else _) = _
      rw [if_pos (hW.2.2 k 0 (Or.inl (by omega))), Nat.or_zero]
      exact ih (by omega)
theorem ev_chosenExits {dp : Nat} {Dm : zv_D} {T : zT} {X : zX} {A : zA} (hC : zC 27 Dm.1 T X A) : zv_ev (dp + 3) 79 [.ref 28] zS0 Dm = zo_i (nI (za_ce A 5)) Dm := by
  obtain ⟨u, -, r1⟩ := zl_up (σ := Option Value) (fun k u => zv_m zt_X7_chosenExits (zv_ev (dp + 2)) false 4 [some (.ref 28), some (.int (nI (za_ce A k))), some (.int (nI k)), u] [] zS0 (Dm.1, Dm.2)) 5 (fun _ _ => True) (by
    intro k u hk _
    have hst := zd_X7_chosenExits_28_4 (zv_ev (dp + 2)) Dm.1 Dm.2 (nI (za_ce A k)) (nI k) u
    have el := zc_e_lt (A k 0)
    have cl := za_ce_lt A k
    rw [if_neg (zi_ge 5 5 rfl hk (by decide)), ev_firstC_27 (dp := dp) (Dm := (Dm.1, Dm.2)) hC hk, nI_1] at hst
    simp only [Option.bind_some] at hst
    show ∃ u', True ∧ _ = zv_m zt_X7_chosenExits (zv_ev (dp + 2)) false 4 [some (.ref 28), some (.int (nI (za_ce A k ||| (if A k 0 = 0 then 0 else 2 ^ zc_e (A k 0))))), some (.int (nI (k + 1))), u'] [] zS0 (Dm.1, Dm.2)
    by_cases h : A k 0 = 0
    · rw [if_pos h, if_pos rfl, show (0 : Int32) = nI 0 from rfl, zi_or (by omega) (by decide)] at hst
      rw [if_pos h]
      exact ⟨_, trivial, hst⟩
    · rw [if_neg h, if_neg (zi_ne1 (by omega)), zi_sh (by omega), zi_or (by omega) (by have := z2k el; omega)] at hst
      rw [if_neg h]
      exact ⟨_, trivial, hst⟩) none trivial
  refine zs_X7_chosenExits_28 ((zd_X7_chosenExits_28 _ Dm.1 Dm.2).trans (r1.trans ?_))
  rw [zd_X7_chosenExits_28_4, if_pos (zi_le 5 5 rfl (by decide) (by decide))]
noncomputable def za_wo (T : zT) (X : zX) (s : Nat) : Nat := if zr T X s = true then za_pc (za_ce (zoA T (zX_su X s) zA_0) (zT_n T)) else 0
theorem za_wo_le (T : zT) (X : zX) (s : Nat) : za_wo T X s ≤ 5 := by
  unfold za_wo
  have := za_pc_lt (za_ce (zoA T (zX_su X s) zA_0) (zT_n T))
  split <;> omega
theorem zo_nn (n : Nat) : nI n = Int32.ofInt (n : Int) := Int32.ofInt_eq_ofNat.symm
theorem ev_gain {dp : Nat} {Dm : zv_D} {m e s : Nat} (hm : Dm.1 9 1 = nI m) (h4 : m ≤ 4) (he : e < m) (hs : s < 2 ^ m) : zv_ev (dp + 2) 122 [.ref 0, .int (nI s), .int (nI e)] zS0 Dm = zo_i (Int32.ofInt (zs_gf m e s)) Dm := by
  have h16 := z2m h4
  obtain ⟨-, b1, b2⟩ := zs_gf_b m h4 e he s hs
  have hst := zd_X8_gainFactor (zv_ev (dp + 1)) Dm.1 Dm.2 (nI s) (nI e)
  rw [ev_bitCount (dp := dp) (Dm.1, Dm.2) (by omega)] at hst
  simp only [Option.bind_some] at hst
  have hb := zi_b1t (a := s) (k := e) (by omega) (by omega)
  refine zs_X8_gainFactor (hst.trans ?_)
  unfold zs_gf
  by_cases hq : s.testBit e = true
  · obtain ⟨q1, q2⟩ := b1 hq
    rw [if_pos (hb ▸ hq), if_pos hq, show nI (za_pc s) - 1 = nI (za_pc s - 1) from pk_sub (a := za_pc s) (b := 1) q1, ev_factC (dp := dp) (Dm.1, Dm.2) (by omega)]
    simp only [Option.bind_some]
    rw [hm, pk_sub q2, ev_factC (dp := dp) (Dm.1, Dm.2) (by omega)]
    simp only [Option.bind_some]
    rw [pk_mul, zo_nn]
  · have q1 := b2 (by simpa using hq)
    rw [if_neg (fun z => hq (hb ▸ z)), if_neg hq, ev_factC (dp := dp) (Dm.1, Dm.2) (by omega)]
    simp only [Option.bind_some]
    rw [hm, show nI m - 1 = nI (m - 1) from pk_sub (a := m) (b := 1) (by omega), pk_sub q1, ev_factC (dp := dp) (Dm.1, Dm.2) (by omega)]
    simp only [Option.bind_some]
    rw [Int32.neg_mul, pk_mul, zo_nn, Int32.ofInt_neg]
theorem ev_unlikeBy {dp : Nat} {g : Nat → Nat → Int32} {h : Nat → Nat → Int64} {Z : zZ} (ok : zOK Z) (hB : zBM g h Z) {u : Nat} (hu : u < 2 ^ zT_m Z.1.1) : ∃ g', zN g g' ∧ (∀ x, 133 < x → g' x = g x) ∧ zv_ev (dp + 9) 207 [.ref 116, .int (nI u)] zS0 (g, h) = zo_i (nI (za_wo Z.1.1 Z.1.2.1 u)) (g', h) := by
  have h5 := ok.1.1.2.1
  obtain ⟨g1, N1, f1, R1, r1⟩ := ev_restsM (dp := dp) (Dm := (g, h)) (u := u) (v := zX_ex Z.1.2.1) ok.1.1 ok.1.2.1 hu ok.1.2.1.2.2.2.2.2.1 hB.1
  dsimp only at N1 f1
  have r1' : zv_ev (dp + 8) 190 [.ref 116, .int (nI u), .int (nI (zX_ex Z.1.2.1))] zS0 (g, h) = zo_i (if zr Z.1.1 Z.1.2.1 u = true then 1 else 0) (g1, h) := r1.trans (congrArg (fun v => zo_i v (g1, h)) (zr_if Z.1.1 Z.1.2.1 u 1 0))
  have hst := zd_X9_unlikeBy (zv_ev (dp + 8)) g h (nI u)
  rw [show g 119 3 = nI (zX_ex Z.1.2.1) from hB.1.2.2.2.1, r1'] at hst
  simp only [Option.bind_some] at hst
  refine ⟨g1, N1, fun x hx => f1 x (Or.inr hx), ?_⟩
  unfold za_wo
  by_cases hr : zr Z.1.1 Z.1.2.1 u = true
  · rw [if_pos hr, if_neg (by decide)] at hst
    rw [if_pos hr]
    have c0 : g1 119 0 = nI (zT_n Z.1.1) := (zBM_q hB N1).1.1
    obtain ⟨w, -, r2⟩ := zl_up (σ := Option Value) (fun k w => zv_m zt_X9_unlikeBy (zv_ev (dp + 8)) false 20 [some (.ref 116), some (.int (nI u)), some (.int (nI (za_ce (zoA Z.1.1 (zX_su Z.1.2.1 u) zA_0) k))), some (.int (nI k)), w] [] zS0 (g1, h)) (zT_n Z.1.1) (fun _ _ => True) (by
      intro k w hk _
      have hs := zd_X9_unlikeBy_20 (zv_ev (dp + 8)) g1 h (some (.int (nI u))) (nI (za_ce (zoA Z.1.1 (zX_su Z.1.2.1 u) zA_0) k)) (nI k) w
      have el := zc_e_lt (zoA Z.1.1 (zX_su Z.1.2.1 u) zA_0 k 0)
      have cl := za_ce_lt (zoA Z.1.1 (zX_su Z.1.2.1 u) zA_0) k
      have hch : g1 121 (71 + 6 * k + 3 * 0) = zm_v (zoA Z.1.1 (zX_su Z.1.2.1 u) zA_0 k 0) (zc_e (zoA Z.1.1 (zX_su Z.1.2.1 u) zA_0 k 0)) := (R1.2.2.2.2.2.2.2.2 k 0 (by omega) (by decide)).1
      rw [c0, if_neg (nI_ge hk (by omega)), show (Value.int 0) = Value.int (nI 0) from rfl, ev_at (dp := dp + 7) (g1, h), zx_at, nI_1] at hs
      simp only [Option.bind_some] at hs
      rw [zi_in (n := 101) (by omega) (by decide), nI_clamp (by omega), hch, cond_true] at hs
      show ∃ w', True ∧ _ = zv_m zt_X9_unlikeBy (zv_ev (dp + 8)) false 20 [some (.ref 116), some (.int (nI u)), some (.int (nI (za_ce (zoA Z.1.1 (zX_su Z.1.2.1 u) zA_0) k ||| (if zoA Z.1.1 (zX_su Z.1.2.1 u) zA_0 k 0 = 0 then 0 else 2 ^ zc_e (zoA Z.1.1 (zX_su Z.1.2.1 u) zA_0 k 0))))), some (.int (nI (k + 1))), w'] [] zS0 (g1, h)
      by_cases h0 : zoA Z.1.1 (zX_su Z.1.2.1 u) zA_0 k 0 = 0
      · rw [zm_v0 h0, if_pos rfl, show (0 : Int32) = nI 0 from rfl, zi_or (by omega) (by decide)] at hs
        rw [if_pos h0]
        exact ⟨_, trivial, hs⟩
      · rw [zm_v1 h0, if_neg (zi_ne9 (by omega)), zi_sh (by omega), zi_or (by omega) (by have := z2k el; omega)] at hs
        rw [if_neg h0]
        exact ⟨_, trivial, hs⟩) none trivial
    refine zs_X9_unlikeBy (hst.trans (r2.trans ?_))
    have cl := za_ce_lt (zoA Z.1.1 (zX_su Z.1.2.1 u) zA_0) (zT_n Z.1.1)
    rw [zd_X9_unlikeBy_20, c0, if_pos (nI_le (Nat.le_refl _) (by omega)), ev_ones (dp := dp + 7) (g1, h) (by omega)]
    rfl
  · rw [if_neg hr, if_pos rfl] at hst
    rw [if_neg hr]
    exact zs_X9_unlikeBy hst
theorem go_share (a b : Int32) : zGo 108 208 [.int a, .int b] := by
  intro Z ok
  have h4 := ok.1.1.2.2.1
  have h5 := ok.1.1.2.1
  have h16 := z2m h4
  refine go_ex (a := a) ok (fun g h hB ha => zs_X8_share ?_) (fun g h hB ha => zs_X9_share ?_) ?_
  · rw [zd_X8_share, ev_heF (dp := 9) hB ha]; rfl
  · rw [zd_X9_share, ev_neF (dp := 8) ok (zBM_0 hB) ha]; rfl
  rintro e he rfl
  have hb := zs_c_b (za_wo Z.1.1 Z.1.2.1) (za_wo_le _ _) h4 he (2 ^ zT_m Z.1.1) (Nat.le_refl _)
  have hfa : 0 < za_fa (zT_m Z.1.1) ∧ za_fa (zT_m Z.1.1) ≤ 24 := by
    have key : ∀ n, n ≤ 4 → 0 < za_fa n ∧ za_fa n ≤ 24 := by decide +kernel
    exact key _ h4
  obtain ⟨v, hvC, hvM⟩ := ev_part (dp := 8) (a := Int32.ofInt (zs_c (zT_m Z.1.1) e (za_wo Z.1.1 Z.1.2.1) (2 ^ zT_m Z.1.1))) (b := b) (q := za_fa (zT_m Z.1.1)) (zi_abs (by omega)) (by omega) hfa.1 (by omega)
  refine ⟨(v, 0, 0), Z, ok, zCl_t fun g h hB => ?_, zMd_q fun g h hB => ?_⟩
  · obtain ⟨g1, f1, C1, r1⟩ := ev_trial (dp := 8) (Dm := (g, h)) hB.1
    dsimp only at f1 r1
    have cm : ∀ s : Nat → Nat → Int32, zF 27 43 g s → s 9 1 = nI (zT_m Z.1.1) := fun s hs => (congrFun (hs 9 (by decide)) 1).trans (zB_m hB)
    have F1 : zF 27 43 g g1 := zF_mono f1 (by decide) (by decide)
    obtain ⟨⟨g2, u2⟩, ⟨F2, V2⟩, q2⟩ := zl_up (σ := (Nat → Nat → Int32) × Option Value) (fun k s => zv_m zt_X8_share (zv_ev 10) false 29 [some (.ref 0), some (.int (nI e)), some (.int b), some (.int (Int32.ofInt (zs_c (zT_m Z.1.1) e (za_wo Z.1.1 Z.1.2.1) k))), some (.int (nI k)), s.2] [] zS0 (s.1, h)) (2 ^ zT_m Z.1.1) (fun k s => zF 27 43 g s.1 ∧ zV s.1 Z.1.1 Z.1.2.1) (by
      rintro k ⟨s, u⟩ hk ⟨Fs, Vs⟩
      dsimp only at Fs Vs
      have hst := zd_X8_share_29 (zv_ev 10) s h (nI e) b (Int32.ofInt (zs_c (zT_m Z.1.1) e (za_wo Z.1.1 Z.1.2.1) k)) (nI k) u
      obtain ⟨g3, f3, C3, r3⟩ := ev_tryUp (dp := 3) (h := h) Vs hk
      have F3 : zF 27 43 g g3 := zF_trans Fs (zF_mono f3 (by decide) (by decide))
      rw [cm s Fs, zi_sh (by omega), if_neg (nI_ge hk (by omega)), r3, zr_if] at hst
      simp only [Option.bind_some] at hst
      have els : zs_c (zT_m Z.1.1) e (za_wo Z.1.1 Z.1.2.1) (k + 1) = zs_c (zT_m Z.1.1) e (za_wo Z.1.1 Z.1.2.1) k + (za_wo Z.1.1 Z.1.2.1 k : Int) * zs_gf (zT_m Z.1.1) e k := rfl
      rw [ev_gain (dp := 8) (Dm := (g3, h)) (cm g3 F3) h4 he hk, ev_chosenExits (dp := 7) (Dm := (g3, h)) C3, za_ce_n C3.2.2.1 5 h5, nI_1] at hst
      simp only [Option.bind_some] at hst
      have cl := za_ce_lt (zoA Z.1.1 (zX_su Z.1.2.1 k) zA_0) (zT_n Z.1.1)
      rw [ev_bitCount (dp := 9) (g3, h) (by omega)] at hst
      simp only [Option.bind_some] at hst
      rw [ev_gain (dp := 8) (Dm := (g3, h)) (cm g3 F3) h4 he hk] at hst
      simp only [Option.bind_some] at hst
      rw [els, Int32.ofInt_add, Int32.ofInt_mul]
      unfold za_wo
      by_cases hr : zr Z.1.1 Z.1.2.1 k = true
      · rw [if_pos hr, if_neg (by decide), zo_nn] at hst
        rw [if_pos hr]
        exact ⟨(_, _), ⟨F3, zV_of hk C3⟩, hst⟩
      · rw [if_neg hr, if_pos rfl] at hst
        rw [if_neg hr]
        exact ⟨(_, _), ⟨F3, zV_of hk C3⟩, hst⟩) (g1, none) ⟨F1, zV_0 C1⟩
    dsimp only at F2 V2 q2
    have hst := zd_X8_share (zv_ev 10) g h (nI e) b
    rw [ev_heT (dp := 9) hB he] at hst
    simp only [Option.bind_some] at hst
    rw [if_neg (by decide), r1] at hst
    have e2 := zd_X8_share_29 (zv_ev 10) g2 h (nI e) b (Int32.ofInt (zs_c (zT_m Z.1.1) e (za_wo Z.1.1 Z.1.2.1) (2 ^ zT_m Z.1.1))) (nI (2 ^ zT_m Z.1.1)) u2
    rw [cm g2 F2, zi_sh (by omega), if_pos (nI_le (Nat.le_refl _) (by omega)), ev_factC (dp := 9) (g2, h) (by omega)] at e2
    simp only [Option.bind_some] at e2
    rw [hvC (g2, h)] at e2
    exact ⟨g2, F2, zs_X8_share (hst.trans (q2.trans e2))⟩
  · have hB0 := zBM_0 hB
    have hst := zd_X9_share (zv_ev 10) g h (nI e) b
    rw [ev_neT (dp := 8) ok hB0 he] at hst
    simp only [Option.bind_some] at hst
    rw [if_pos trivial, show zv_w g 116 0 0 119 1 = nI (zT_m Z.1.1) from hB0.1.2.1] at hst
    obtain ⟨g2, ⟨N2, w2⟩, q2⟩ := zl_up (fun k (s : Nat → Nat → Int32) => zv_m zt_X9_share (zv_ev 10) false 25 [some (.ref 116), some (.int (nI e)), some (.int b), some (.int (nI (zT_m Z.1.1))), some (.int (nI k)), none, none] [] zS0 (s, h)) (2 ^ zT_m Z.1.1) (fun k s => zN g s ∧ ∀ q, q < k → s 135 q = nI (za_wo Z.1.1 Z.1.2.1 q)) (by
      rintro k s hk ⟨Ns, hw⟩
      have hs2 := zd_X9_share_25 (zv_ev 10) s h (nI e) b (nI (zT_m Z.1.1)) (nI k) none none
      obtain ⟨g3, N3, f3, r3⟩ := ev_unlikeBy (dp := 1) ok (zBM_q hB Ns) hk
      rw [zi_sh (by omega), if_neg (nI_ge hk (by omega)), r3, nI_1] at hs2
      simp only [Option.bind_some] at hs2
      rw [zi_in (n := 16) (by omega) (by decide), nI_clamp (by omega), cond_true] at hs2
      refine ⟨zv_w g3 135 k (nI (za_wo Z.1.1 Z.1.2.1 k)), ⟨zN_trans (zN_trans Ns N3) (zN_c (fun x hx => zw_cell _ _ _ (by omega))), fun q hq => ?_⟩, hs2⟩
      by_cases hqk : q = k
      · subst hqk; exact zw_same _ _ _ _
      · rw [zw_other _ _ _ hqk, f3 135 (by decide)]; exact hw q (by omega)) (zv_w g 116 0 0) ⟨zN_0 g, fun q hq => absurd hq (Nat.not_lt_zero q)⟩
    obtain ⟨u3, -, q3⟩ := zl_up (σ := Option Value) (fun k u => zv_m zt_X9_share (zv_ev 10) false 58 [some (.ref 116), some (.int (nI e)), some (.int b), some (.int (nI (zT_m Z.1.1))), some (.int (Int32.ofInt (zs_m (zT_m Z.1.1) e (za_wo Z.1.1 Z.1.2.1) k))), some (.int (nI k)), u] [] zS0 (g2, h)) (2 ^ zT_m Z.1.1) (fun _ _ => True) (by
      intro k u hk _
      have hs2 := zd_X9_share_58 (zv_ev 10) g2 h (nI e) b (nI (zT_m Z.1.1)) (Int32.ofInt (zs_m (zT_m Z.1.1) e (za_wo Z.1.1 Z.1.2.1) k)) (nI k) u
      obtain ⟨-, b1, b2⟩ := zs_gf_b _ h4 e he k hk
      rw [zi_sh (by omega), if_neg (nI_ge hk (by omega)), ev_ones (dp := 9) (g2, h) (by omega)] at hs2
      simp only [Option.bind_some] at hs2
      rw [zi_has (dp := 9) (g2, h) (by omega) (by omega), nI_1] at hs2
      simp only [Option.bind_some] at hs2
      have els : zs_m (zT_m Z.1.1) e (za_wo Z.1.1 Z.1.2.1) (k + 1) = zs_m (zT_m Z.1.1) e (za_wo Z.1.1 Z.1.2.1) k + (if k.testBit e = true then 0 else ((za_fa (za_pc k) * za_fa (zT_m Z.1.1 - 1 - za_pc k) : Nat) : Int) * ((za_wo Z.1.1 Z.1.2.1 (k ||| 2 ^ e) : Int) - (za_wo Z.1.1 Z.1.2.1 k : Int))) := rfl
      rw [els]
      by_cases hq : k.testBit e = true
      · rw [if_pos hq, if_neg (by decide), Int32.add_zero] at hs2
        rw [if_pos hq, Int.add_zero]
        exact ⟨_, trivial, hs2⟩
      · have q1 := b2 (by simpa using hq)
        have ho : k ||| 2 ^ e < 2 ^ zT_m Z.1.1 := Nat.or_lt_two_pow hk (zp_lt he)
        have hp := zp_lt he
        rw [if_neg hq, if_pos rfl, ev_factM (dp := 9) (g2, h) (by omega)] at hs2
        simp only [Option.bind_some] at hs2
        rw [show nI (zT_m Z.1.1) - 1 = nI (zT_m Z.1.1 - 1) from pk_sub (a := zT_m Z.1.1) (b := 1) (by omega), pk_sub q1, ev_factM (dp := 9) (g2, h) (by omega), zi_sh (by omega), zi_or (by omega) (by omega)] at hs2
        simp only [Option.bind_some] at hs2
        rw [zi_in (n := 16) (by omega) (by decide), zi_in (n := 16) (by omega) (by decide), nI_clamp (by omega), nI_clamp (by omega), w2 _ ho, w2 _ hk, pk_mul, zo_nn (za_wo _ _ (k ||| 2 ^ e)), zo_nn (za_wo _ _ k), zo_nn (_ * _), ← Int32.ofInt_sub, ← Int32.ofInt_mul, ← Int32.ofInt_add, cond_true, cond_true] at hs2
        rw [if_neg hq]
        exact ⟨_, trivial, hs2⟩) none trivial
    have e1 := zd_X9_share_25 (zv_ev 10) g2 h (nI e) b (nI (zT_m Z.1.1)) (nI (2 ^ zT_m Z.1.1)) none none
    rw [zi_sh (by omega), if_pos (nI_le (Nat.le_refl _) (by omega))] at e1
    have e2 := zd_X9_share_58 (zv_ev 10) g2 h (nI e) b (nI (zT_m Z.1.1)) (Int32.ofInt (zs_m (zT_m Z.1.1) e (za_wo Z.1.1 Z.1.2.1) (2 ^ zT_m Z.1.1))) (nI (2 ^ zT_m Z.1.1)) u3
    rw [zi_sh (by omega), if_pos (nI_le (Nat.le_refl _) (by omega)), ev_factM (dp := 9) (g2, h) (by omega)] at e2
    simp only [Option.bind_some] at e2
    rw [← zs_same _ h4 he, hvM (g2, h)] at e2
    rw [← zs_same _ h4 he] at q3
    exact ⟨g2, N2, zs_X9_share (hst.trans (q2.trans (e1.trans (q3.trans e2))))⟩
