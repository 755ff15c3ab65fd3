/-! ===== random numbers ===== -/
def zd_d (x : Int64) : Nat := (x.toUInt64 >>> ((33 : Int32).toInt64.toUInt64 &&& Int64.toUInt64 63)).toNat
theorem zd_d_lt (x : Int64) : zd_d x < 2 ^ 31 := by
  unfold zd_d
  have h1 : ((33 : Int32).toInt64.toUInt64 &&& Int64.toUInt64 63).toNat % 64 = 33 := by decide +kernel
  rw [UInt64.toNat_shiftRight, h1, Nat.shiftRight_eq_div_pow]
  have := x.toUInt64.toNat_lt
  omega
theorem zd_d_eq (x : Int64) : (x.toUInt64 >>> ((33 : Int32).toInt64.toUInt64 &&& Int64.toUInt64 63)).toInt64 = lN (zd_d x) := by
  have key : ∀ u : UInt64, u.toInt64 = lN u.toNat := by
    intro u
    apply Int64.toBitVec_inj.mp
    unfold lN
    simp
  unfold zd_d
  exact key _
theorem zd_li (n : Nat) : (lN n).toInt32 = nI n := by
  unfold lN
  simp
  rfl
/-- what a random number becomes, and which router it names: nothing more is said of them -/
theorem zd_ex : ∃ (fx : Int64 → Int64) (fd : Int64 → Nat), ∀ x, x * 6364136223846793005 + 1442695040888963407 = fx x ∧ fd x < 2 ^ 31 ∧ (x.toUInt64 >>> ((33 : Int32).toInt64.toUInt64 &&& Int64.toUInt64 63)).toInt64 = lN (fd x) := ⟨fun x => x * 6364136223846793005 + 1442695040888963407, zd_d, fun x => ⟨rfl, zd_d_lt x, zd_d_eq x⟩⟩
/-- random number, choices, sum behind k steps -/
def zd_k (T : zT) (X : zX) (A : zA) (fx : Int64 → Int64) (fr : Int64 → Nat) (x : Int64) : Nat → Int64 × zA × Nat
  | 0 => (x, A, 0)
  | k + 1 => (fx (zd_k T X A fx fr x k).1, za_st T X (zd_k T X A fx fr x k).2.1 (fr (zd_k T X A fx fr x k).1), (zd_k T X A fx fr x k).2.2 + (if za_st T X (zd_k T X A fx fr x k).2.1 (fr (zd_k T X A fx fr x k).1) (fr (zd_k T X A fx fr x k).1) 0 = 0 then 0 else zc_e (za_st T X (zd_k T X A fx fr x k).2.1 (fr (zd_k T X A fx fr x k).1) (fr (zd_k T X A fx fr x k).1) 0) + 1))
theorem ev_inr1 {dp : Nat} (Dm : zv_D) (n : Nat) (a : Int32) (c : Int64) (hc : c = lN n) (hn : n < 2 ^ 31) : zv_ev (dp + 1) 129 [.long a.toInt64, .long 1, .long c] zS0 Dm = zo_i (if 1 ≤ a ∧ a ≤ nI n then 1 else 0) Dm := by
  rw [ev_in, hc, ← nI_l hn]
  have e : ((1 : Int64) ≤ a.toInt64 ∧ a.toInt64 ≤ (nI n).toInt64) ↔ (1 ≤ a ∧ a ≤ nI n) := and_congr (zx_64 1 a) (zx_64 a (nI n))
  by_cases h : 1 ≤ a ∧ a ≤ nI n
  · rw [if_pos h, if_pos (e.mpr h)]
  · rw [if_neg h, if_neg (fun z => h (e.mp z))]
theorem zi_1n {a : Int32} {n : Nat} (hn : n < 2 ^ 31) (h : 1 ≤ a ∧ a ≤ nI n) : ∃ k, 1 ≤ k ∧ k ≤ n ∧ a = nI k := by
  have h0 : ¬ a < 0 := Int32.not_lt.mpr (Int32.le_trans (by decide) h.1)
  obtain ⟨j, hj, rfl⟩ := nI_of h0
  exact ⟨j, (nI_leI (a := 1) (by decide) hj).mp h.1, (nI_leI hj hn).mp h.2, rfl⟩
theorem go_drawn (a : Int32) : zGo 111 211 [.int a] := by
  intro Z ok
  have hn1 := ok.1.1.1
  have h5 := ok.1.1.2.1
  have h4 := ok.1.1.2.2.1
  by_cases ha' : ¬ (1 ≤ a ∧ a ≤ nI 20)
  · have ha := ha'
    refine ⟨(-2, 0, 0), Z, ok, zCl_q fun g h hB => ⟨g, hB.1, fun _ _ => rfl, zs_X8_drawn ((zd_X8_drawn _ g h a).trans ?_)⟩, zMd_q fun g h hB => ?_⟩
    · by_cases h1 : a < 1
      · rw [if_pos h1]
      · rw [if_neg h1, if_neg (show ¬ a ≤ 20 from fun z => ha ⟨Int32.not_lt.mp h1, z⟩)]
    · have hst := zd_X9_drawn (zv_ev 10) g h a
      rw [ev_inr1 (dp := 9) (zv_w g 116 0 0, h) 20 a 20 rfl (by decide), if_neg ha] at hst
      exact ⟨_, zN_0 g, zs_X9_drawn hst⟩
  have ha := Classical.not_not.mp ha'
  obtain ⟨fx, fd, hfx⟩ := zd_ex
  obtain ⟨c, c1, c2, rfl⟩ := zi_1n (by decide) ha
  have hWk : ∀ k, za_W Z.1.1 (zd_k Z.1.1 Z.1.2.1 Z.1.2.2 fx (fun x => fd (fx x) % zT_n Z.1.1) Z.2.2.2.2.2 k).2.1 := by
    intro k
    induction k with
    | zero => exact ok.1.2.2
    | succ k ih => exact za_st_W ok.1.1 ih (Nat.mod_lt _ (by omega))
  refine ⟨(nI (zd_k Z.1.1 Z.1.2.1 Z.1.2.2 fx (fun x => fd (fx x) % zT_n Z.1.1) Z.2.2.2.2.2 c).2.2, 0, 0), (Z.1, Z.2.1, Z.2.2.1, Z.2.2.2.1, Z.2.2.2.2.1, (zd_k Z.1.1 Z.1.2.1 Z.1.2.2 fx (fun x => fd (fx x) % zT_n Z.1.1) Z.2.2.2.2.2 c).1), ok, fun g h hB => ?_, fun g h hB => ?_⟩
  · obtain ⟨g1, f1, C1, r1⟩ := ev_trial (dp := 8) (Dm := (g, h)) hB.1
    dsimp only at f1 r1
    have F1 : zF 27 43 g g1 := zF_mono f1 (by decide) (by decide)
    obtain ⟨⟨g2, hh2, u2⟩, ⟨F2, C2, x2, y2⟩, q2⟩ := zl_up (σ := (Nat → Nat → Int32) × (Nat → Nat → Int64) × Option Value) (fun k s => zv_m zt_X8_drawn (zv_ev 10) false 29 [some (.ref 0), some (.int (nI c)), some (.int (nI (zd_k Z.1.1 Z.1.2.1 Z.1.2.2 fx (fun x => fd (fx x) % zT_n Z.1.1) Z.2.2.2.2.2 k).2.2)), some (.int (nI k)), s.2.2] [] zS0 (s.1, s.2.1)) c (fun k s => zF 27 43 g s.1 ∧ zC 27 s.1 Z.1.1 Z.1.2.1 (zd_k Z.1.1 Z.1.2.1 Z.1.2.2 fx (fun x => fd (fx x) % zT_n Z.1.1) Z.2.2.2.2.2 k).2.1 ∧ s.2.1 0 10 = (zd_k Z.1.1 Z.1.2.1 Z.1.2.2 fx (fun x => fd (fx x) % zT_n Z.1.1) Z.2.2.2.2.2 k).1 ∧ ∀ x, x ≠ 0 → s.2.1 x = h x) (by
      rintro k ⟨s, hs, u⟩ hk ⟨Fs, Cs, xs, ys⟩
      dsimp only at Fs Cs xs ys
      have e1 := zd_X8_drawn_29 (zv_ev 10) s hs (nI c) (nI (zd_k Z.1.1 Z.1.2.1 Z.1.2.2 fx (fun x => fd (fx x) % zT_n Z.1.1) Z.2.2.2.2.2 k).2.2) (nI k) u
      have hd := (hfx (fx (zd_k Z.1.1 Z.1.2.1 Z.1.2.2 fx (fun x => fd (fx x) % zT_n Z.1.1) Z.2.2.2.2.2 k).1)).2.1
      have hr : fd (fx (zd_k Z.1.1 Z.1.2.1 Z.1.2.2 fx (fun x => fd (fx x) % zT_n Z.1.1) Z.2.2.2.2.2 k).1) % zT_n Z.1.1 < zT_n Z.1.1 := Nat.mod_lt _ (by omega)
      rw [if_neg (nI_ge hk (by omega)), show s 9 0 = nI (zT_n Z.1.1) from Cs.2.2.2.1.1, if_neg (nI_nle (by omega) (by omega)), if_neg (nI_ne0 (by omega) (by omega)), xs, zwl_same] at e1
      have ex := (hfx (zd_k Z.1.1 Z.1.2.1 Z.1.2.2 fx (fun x => fd (fx x) % zT_n Z.1.1) Z.2.2.2.2.2 k).1).1
      rw [ex, (hfx (fx (zd_k Z.1.1 Z.1.2.1 Z.1.2.2 fx (fun x => fd (fx x) % zT_n Z.1.1) Z.2.2.2.2.2 k).1)).2.2, zd_li, pk_rem hd (by omega) (by omega)] at e1
      obtain ⟨g3, f3, C3, r3⟩ := ev_stepOne_27 (dp := 5) (Dm := (s, zv_wl hs 0 10 (fx (zd_k Z.1.1 Z.1.2.1 Z.1.2.2 fx (fun x => fd (fx x) % zT_n Z.1.1) Z.2.2.2.2.2 k).1))) Cs hr
      dsimp only at f3 r3
      have r3' : zv_ev 10 56 [.ref 27, .int (nI (fd (fx (zd_k Z.1.1 Z.1.2.1 Z.1.2.2 fx (fun x => fd (fx x) % zT_n Z.1.1) Z.2.2.2.2.2 k).1) % zT_n Z.1.1))] zS0 (s, zv_wl hs 0 10 (fx (zd_k Z.1.1 Z.1.2.1 Z.1.2.2 fx (fun x => fd (fx x) % zT_n Z.1.1) Z.2.2.2.2.2 k).1)) = _ := r3
      rw [r3'] at e1
      simp only [Option.bind_some] at e1
      have r4 := ev_firstC_27 (dp := 8) (Dm := (g3, zv_wl hs 0 10 (fx (zd_k Z.1.1 Z.1.2.1 Z.1.2.2 fx (fun x => fd (fx x) % zT_n Z.1.1) Z.2.2.2.2.2 k).1))) (i := fd (fx (zd_k Z.1.1 Z.1.2.1 Z.1.2.2 fx (fun x => fd (fx x) % zT_n Z.1.1) Z.2.2.2.2.2 k).1) % zT_n Z.1.1) C3 (by omega)
      have r4' : zv_ev 10 76 [.ref 28, .int (nI (fd (fx (zd_k Z.1.1 Z.1.2.1 Z.1.2.2 fx (fun x => fd (fx x) % zT_n Z.1.1) Z.2.2.2.2.2 k).1) % zT_n Z.1.1))] zS0 (g3, zv_wl hs 0 10 (fx (zd_k Z.1.1 Z.1.2.1 Z.1.2.2 fx (fun x => fd (fx x) % zT_n Z.1.1) Z.2.2.2.2.2 k).1)) = _ := r4
      rw [r4', nI_1] at e1
      simp only [Option.bind_some] at e1
      have hx1 : zv_wl hs 0 10 (fx (zd_k Z.1.1 Z.1.2.1 Z.1.2.2 fx (fun x => fd (fx x) % zT_n Z.1.1) Z.2.2.2.2.2 k).1) 0 10 = (zd_k Z.1.1 Z.1.2.1 Z.1.2.2 fx (fun x => fd (fx x) % zT_n Z.1.1) Z.2.2.2.2.2 (k + 1)).1 := zwl_same _ _ _ _
      refine ⟨(g3, zv_wl hs 0 10 (fx (zd_k Z.1.1 Z.1.2.1 Z.1.2.2 fx (fun x => fd (fx x) % zT_n Z.1.1) Z.2.2.2.2.2 k).1), some (.int (nI (fd (fx (zd_k Z.1.1 Z.1.2.1 Z.1.2.2 fx (fun x => fd (fx x) % zT_n Z.1.1) Z.2.2.2.2.2 k).1) % zT_n Z.1.1)))), ⟨zF_trans Fs (zF_mono f3 (by decide) (by decide)), C3, hx1, fun x hx => (zwl_cell _ _ _ hx).trans (ys x hx)⟩, e1.trans ?_⟩
      show zv_m zt_X8_drawn (zv_ev 10) false 29 [_, _, some (.int (_ + (_ + 1))), _, _] _ _ _ = zv_m zt_X8_drawn (zv_ev 10) false 29 [_, _, some (.int (nI (_ + (if za_st Z.1.1 Z.1.2.1 (zd_k Z.1.1 Z.1.2.1 Z.1.2.2 fx (fun x => fd (fx x) % zT_n Z.1.1) Z.2.2.2.2.2 k).2.1 (fd (fx (zd_k Z.1.1 Z.1.2.1 Z.1.2.2 fx (fun x => fd (fx x) % zT_n Z.1.1) Z.2.2.2.2.2 k).1) % zT_n Z.1.1) (fd (fx (zd_k Z.1.1 Z.1.2.1 Z.1.2.2 fx (fun x => fd (fx x) % zT_n Z.1.1) Z.2.2.2.2.2 k).1) % zT_n Z.1.1) 0 = 0 then 0 else _)))), _, _] _ _ _
      by_cases h0 : za_st Z.1.1 Z.1.2.1 (zd_k Z.1.1 Z.1.2.1 Z.1.2.2 fx (fun x => fd (fx x) % zT_n Z.1.1) Z.2.2.2.2.2 k).2.1 (fd (fx (zd_k Z.1.1 Z.1.2.1 Z.1.2.2 fx (fun x => fd (fx x) % zT_n Z.1.1) Z.2.2.2.2.2 k).1) % zT_n Z.1.1) (fd (fx (zd_k Z.1.1 Z.1.2.1 Z.1.2.2 fx (fun x => fd (fx x) % zT_n Z.1.1) Z.2.2.2.2.2 k).1) % zT_n Z.1.1) 0 = 0
      · rw [if_pos h0, if_pos h0, show ((-1 : Int32) + 1) = 0 from rfl, Int32.add_zero]; rfl
      · rw [if_neg h0, if_neg h0, nI_1, nI_add]) (g1, h, none) ⟨F1, C1, hB.2.2.2.2.2, fun _ _ => rfl⟩
    dsimp only at F2 C2 x2 y2 q2
    have hst := zd_X8_drawn (zv_ev 10) g h (nI c)
    rw [if_neg (show ¬ nI c < 1 from nI_nlt (b := 1) c1 (by omega)), if_pos (show nI c ≤ 20 from nI_le (b := 20) c2 (by decide)), r1] at hst
    have e2 := zd_X8_drawn_29 (zv_ev 10) g2 hh2 (nI c) (nI (zd_k Z.1.1 Z.1.2.1 Z.1.2.2 fx (fun x => fd (fx x) % zT_n Z.1.1) Z.2.2.2.2.2 c).2.2) (nI c) u2
    rw [if_pos (nI_le (Nat.le_refl _) (by omega))] at e2
    have B2 := zBC_t hB F2
    exact ⟨g2, hh2, ⟨B2.1, B2.2.1, B2.2.2.1, B2.2.2.2.1, B2.2.2.2.2.1, x2⟩, fun x hx => ⟨F2 x (by omega), y2 x (by omega)⟩, zs_X8_drawn (hst.trans (q2.trans e2))⟩
  · have hB0 := zBM_0 hB
    obtain ⟨g0, f0, n0, r0⟩ := ev_lay_120_119 (dp := 9) (zv_w g 116 0 0, h)
    dsimp only at f0 n0 r0
    have R0 : zM_R (g0 120) Z.1.1 Z.1.2.1 Z.1.2.2 := zM_R_of hB0.1 n0 h4
    obtain ⟨g1, f1, K1, r1⟩ := ev_layCosts_120 (dp := 8) (Dm := (g0, h)) (T := Z.1.1) (X := Z.1.2.1) (A := Z.1.2.2) ok.1.1 ok.1.2.1 R0
    dsimp only at f1 r1
    have N1 : zN g g1 := zN_trans (zN_0 g) (zN_c (fun x hx => (f1 x (by omega)).trans (f0 x (by omega))))
    obtain ⟨⟨g2, hh2, u2, v2⟩, ⟨N2, R2, K2, x2, y2⟩, q2⟩ := zl_up (σ := (Nat → Nat → Int32) × (Nat → Nat → Int64) × Option Value × Option Value) (fun k s => zv_m zt_X9_drawn (zv_ev 10) false 43 [some (.ref 116), some (.int (nI c)), some (.int (nI (zd_k Z.1.1 Z.1.2.1 Z.1.2.2 fx (fun x => fd (fx x) % zT_n Z.1.1) Z.2.2.2.2.2 k).2.2)), some (.int (nI k)), s.2.2.1, s.2.2.2] [] zS0 (s.1, s.2.1)) c (fun k s => zN g s.1 ∧ zM_R (s.1 120) Z.1.1 Z.1.2.1 (zd_k Z.1.1 Z.1.2.1 Z.1.2.2 fx (fun x => fd (fx x) % zT_n Z.1.1) Z.2.2.2.2.2 k).2.1 ∧ zM_K s.1 Z.1.1 Z.1.2.1 ∧ s.2.1 116 17 = (zd_k Z.1.1 Z.1.2.1 Z.1.2.2 fx (fun x => fd (fx x) % zT_n Z.1.1) Z.2.2.2.2.2 k).1 ∧ ∀ x, x ≠ 116 → s.2.1 x = h x) (by
      rintro k ⟨s, hs, u, v⟩ hk ⟨Ns, Rs, Ks, xs, ys⟩
      dsimp only at Ns Rs Ks xs ys
      have e1 := zd_X9_drawn_43 (zv_ev 10) s hs (nI c) (nI (zd_k Z.1.1 Z.1.2.1 Z.1.2.2 fx (fun x => fd (fx x) % zT_n Z.1.1) Z.2.2.2.2.2 k).2.2) (nI k) u v
      have hd := (hfx (fx (zd_k Z.1.1 Z.1.2.1 Z.1.2.2 fx (fun x => fd (fx x) % zT_n Z.1.1) Z.2.2.2.2.2 k).1)).2.1
      have hr : fd (fx (zd_k Z.1.1 Z.1.2.1 Z.1.2.2 fx (fun x => fd (fx x) % zT_n Z.1.1) Z.2.2.2.2.2 k).1) % zT_n Z.1.1 < zT_n Z.1.1 := Nat.mod_lt _ (by omega)
      have c0 : s 119 0 = nI (zT_n Z.1.1) := (zBM_q hB Ns).1.1
      rw [if_neg (nI_ge hk (by omega)), c0, nI_l (by omega), if_neg (fun z => by have := (pk_lEQ (a := zT_n Z.1.1) (b := 0) (by omega) (by decide)).mp z; omega), xs, zwl_same] at e1
      have ex := (hfx (zd_k Z.1.1 Z.1.2.1 Z.1.2.2 fx (fun x => fd (fx x) % zT_n Z.1.1) Z.2.2.2.2.2 k).1).1
      rw [ex, (hfx (fx (zd_k Z.1.1 Z.1.2.1 Z.1.2.2 fx (fun x => fd (fx x) % zT_n Z.1.1) Z.2.2.2.2.2 k).1)).2.2, pk_lRem (by omega) (by omega) (by omega), zd_li] at e1
      obtain ⟨g3, f3, R3, r3⟩ := ev_stepOn_120 (dp := 4) (Dm := (s, zv_wl hs 116 17 (fx (zd_k Z.1.1 Z.1.2.1 Z.1.2.2 fx (fun x => fd (fx x) % zT_n Z.1.1) Z.2.2.2.2.2 k).1))) (T := Z.1.1) (X := Z.1.2.1) (A := (zd_k Z.1.1 Z.1.2.1 Z.1.2.2 fx (fun x => fd (fx x) % zT_n Z.1.1) Z.2.2.2.2.2 k).2.1) ok.1.1 ok.1.2.1 Rs Ks (hWk k) hr
      dsimp only at f3 r3
      have r3' : zv_ev 10 168 [.ref 116, .ref 120, .int (nI (fd (fx (zd_k Z.1.1 Z.1.2.1 Z.1.2.2 fx (fun x => fd (fx x) % zT_n Z.1.1) Z.2.2.2.2.2 k).1) % zT_n Z.1.1))] zS0 (s, zv_wl hs 116 17 (fx (zd_k Z.1.1 Z.1.2.1 Z.1.2.2 fx (fun x => fd (fx x) % zT_n Z.1.1) Z.2.2.2.2.2 k).1)) = _ := r3
      rw [r3'] at e1
      simp only [Option.bind_some] at e1
      have hch := (R3.2.2.2.2.2.2.2.2 (fd (fx (zd_k Z.1.1 Z.1.2.1 Z.1.2.2 fx (fun x => fd (fx x) % zT_n Z.1.1) Z.2.2.2.2.2 k).1) % zT_n Z.1.1) 0 (by omega) (by decide)).1
      rw [show (Value.int 0) = Value.int (nI 0) from rfl, ev_at (dp := 9) (g3, zv_wl hs 116 17 (fx (zd_k Z.1.1 Z.1.2.1 Z.1.2.2 fx (fun x => fd (fx x) % zT_n Z.1.1) Z.2.2.2.2.2 k).1)), zx_at, nI_1] at e1
      simp only [Option.bind_some] at e1
      rw [zi_in (n := 101) (by omega) (by decide), nI_clamp (by omega), hch, cond_true, Int32.add_zero] at e1
      have N3 : zN g g3 := zN_trans Ns (zN_c (fun x hx => f3 x (by omega) (by omega) (by omega) (by omega)))
      have K3 : zM_K g3 Z.1.1 Z.1.2.1 := fun i j hi hj => (congrFun (f3 128 (by decide) (by decide) (by decide) (by decide)) _).trans (Ks i j hi hj)
      have el := zc_e_lt (za_st Z.1.1 Z.1.2.1 (zd_k Z.1.1 Z.1.2.1 Z.1.2.2 fx (fun x => fd (fx x) % zT_n Z.1.1) Z.2.2.2.2.2 k).2.1 (fd (fx (zd_k Z.1.1 Z.1.2.1 Z.1.2.2 fx (fun x => fd (fx x) % zT_n Z.1.1) Z.2.2.2.2.2 k).1) % zT_n Z.1.1) (fd (fx (zd_k Z.1.1 Z.1.2.1 Z.1.2.2 fx (fun x => fd (fx x) % zT_n Z.1.1) Z.2.2.2.2.2 k).1) % zT_n Z.1.1) 0)
      have hx1 : zv_wl hs 116 17 (fx (zd_k Z.1.1 Z.1.2.1 Z.1.2.2 fx (fun x => fd (fx x) % zT_n Z.1.1) Z.2.2.2.2.2 k).1) 116 17 = (zd_k Z.1.1 Z.1.2.1 Z.1.2.2 fx (fun x => fd (fx x) % zT_n Z.1.1) Z.2.2.2.2.2 (k + 1)).1 := zwl_same _ _ _ _
      have tgt : (zd_k Z.1.1 Z.1.2.1 Z.1.2.2 fx (fun x => fd (fx x) % zT_n Z.1.1) Z.2.2.2.2.2 (k + 1)).2.2 = (zd_k Z.1.1 Z.1.2.1 Z.1.2.2 fx (fun x => fd (fx x) % zT_n Z.1.1) Z.2.2.2.2.2 k).2.2 + (if za_st Z.1.1 Z.1.2.1 (zd_k Z.1.1 Z.1.2.1 Z.1.2.2 fx (fun x => fd (fx x) % zT_n Z.1.1) Z.2.2.2.2.2 k).2.1 (fd (fx (zd_k Z.1.1 Z.1.2.1 Z.1.2.2 fx (fun x => fd (fx x) % zT_n Z.1.1) Z.2.2.2.2.2 k).1) % zT_n Z.1.1) (fd (fx (zd_k Z.1.1 Z.1.2.1 Z.1.2.2 fx (fun x => fd (fx x) % zT_n Z.1.1) Z.2.2.2.2.2 k).1) % zT_n Z.1.1) 0 = 0 then 0 else zc_e (za_st Z.1.1 Z.1.2.1 (zd_k Z.1.1 Z.1.2.1 Z.1.2.2 fx (fun x => fd (fx x) % zT_n Z.1.1) Z.2.2.2.2.2 k).2.1 (fd (fx (zd_k Z.1.1 Z.1.2.1 Z.1.2.2 fx (fun x => fd (fx x) % zT_n Z.1.1) Z.2.2.2.2.2 k).1) % zT_n Z.1.1) (fd (fx (zd_k Z.1.1 Z.1.2.1 Z.1.2.2 fx (fun x => fd (fx x) % zT_n Z.1.1) Z.2.2.2.2.2 k).1) % zT_n Z.1.1) 0) + 1) := rfl
      rw [tgt]
      by_cases h0 : za_st Z.1.1 Z.1.2.1 (zd_k Z.1.1 Z.1.2.1 Z.1.2.2 fx (fun x => fd (fx x) % zT_n Z.1.1) Z.2.2.2.2.2 k).2.1 (fd (fx (zd_k Z.1.1 Z.1.2.1 Z.1.2.2 fx (fun x => fd (fx x) % zT_n Z.1.1) Z.2.2.2.2.2 k).1) % zT_n Z.1.1) (fd (fx (zd_k Z.1.1 Z.1.2.1 Z.1.2.2 fx (fun x => fd (fx x) % zT_n Z.1.1) Z.2.2.2.2.2 k).1) % zT_n Z.1.1) 0 = 0
      · rw [zm_v0 h0, if_pos rfl] at e1
        rw [if_pos h0, Nat.add_zero]
        exact ⟨(g3, zv_wl hs 116 17 (fx (zd_k Z.1.1 Z.1.2.1 Z.1.2.2 fx (fun x => fd (fx x) % zT_n Z.1.1) Z.2.2.2.2.2 k).1), _, _), ⟨N3, R3, K3, hx1, fun x hx => (zwl_cell _ _ _ hx).trans (ys x hx)⟩, e1⟩
      · rw [zm_v1 h0, if_neg (zi_ne9 (by omega)), nI_1, nI_add] at e1
        rw [if_neg h0]
        exact ⟨(g3, zv_wl hs 116 17 (fx (zd_k Z.1.1 Z.1.2.1 Z.1.2.2 fx (fun x => fd (fx x) % zT_n Z.1.1) Z.2.2.2.2.2 k).1), _, _), ⟨N3, R3, K3, hx1, fun x hx => (zwl_cell _ _ _ hx).trans (ys x hx)⟩, e1⟩) (g1, h, none, none) ⟨N1, zMR_page (g := g0) R0 (f1 120 (by decide)), K1, hB.2.2.2.2.2, fun _ _ => rfl⟩
    dsimp only at N2 R2 K2 x2 y2 q2
    have hst := zd_X9_drawn (zv_ev 10) g h (nI c)
    rw [ev_inr1 (dp := 9) (zv_w g 116 0 0, h) 20 (nI c) 20 rfl (by decide), if_pos ha] at hst
    simp only [Option.bind_some] at hst
    rw [if_neg (by decide), r0] at hst
    simp only [Option.bind_some] at hst
    rw [r1] at hst
    have e2 := zd_X9_drawn_43 (zv_ev 10) g2 hh2 (nI c) (nI (zd_k Z.1.1 Z.1.2.1 Z.1.2.2 fx (fun x => fd (fx x) % zT_n Z.1.1) Z.2.2.2.2.2 c).2.2) (nI c) u2 v2
    rw [if_pos (nI_le (Nat.le_refl _) (by omega))] at e2
    have B2 := zBM_q hB N2
    exact ⟨g2, hh2, ⟨B2.1, B2.2.1, B2.2.2.1, B2.2.2.2.1, B2.2.2.2.2.1, x2⟩, fun x hx => ⟨N2.1 x (by omega), y2 x (by omega)⟩, zs_X9_drawn (hst.trans (q2.trans e2))⟩
