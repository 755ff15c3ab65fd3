noncomputable def zy_s (T : zT) (X : zX) (A : zA) (s : Nat) : Option (zX × zA) := zy T X A (s / 1000) (s / 100 % 10) (s / 10 % 10) (s % 10)
noncomputable def zy_r (T : zT) (st : Nat → Nat) : Nat → Nat → zX → zA → Int32
  | 0, _, _, _ => -9
  | f + 1, t, X, A => match zy_s T X A (st t) with
    | none => nI t
    | some p => zy_r T st f (t + 1) p.1 p.2
theorem zun_s : ∀ k, k < 4 → zv_un k * 10000 = zv_un (k + 1) := by decide +kernel
theorem zun_n : ∀ k, k ≤ 4 → zv_un k = lN (10000 ^ k) := by decide +kernel
theorem ev_longPower {dp : Nat} (Dm : zv_D) {n : Nat} (hn : n ≤ 4) : zv_ev (dp + 1) 196 [.long 10000, .int (nI n)] zS0 Dm = some ((0, zv_un n, 0), Dm) := by
  obtain ⟨-, -, r1⟩ := zl_up (σ := Unit) (fun k _ => zv_m zt_X9_longPower (zv_ev dp) false 5 [some (.long 10000), some .null, some (.int (nI n)), some (.long (zv_un k)), some .null, some (.int (nI k))] [] zS0 (Dm.1, Dm.2)) n (fun _ _ => True) (by
    intro k _ hk _
    refine ⟨(), trivial, ?_⟩
    rw [zd_X9_longPower_5, if_neg (nI_ge hk (by omega)), zun_s k (by omega), nI_1]) () trivial
  refine zs_X9_longPower ((zd_X9_longPower _ Dm.1 Dm.2 _ _).trans (r1.trans ?_))
  rw [zd_X9_longPower_5, if_pos (nI_le (Nat.le_refl _) (by omega))]
theorem zy_dig {k n t : Nat} (hk : k < 2 ^ 63) (hn : n ≤ 4) (ht : t < n) : ((lN k / zv_un (n - 1 - t)) - (lN k / zv_un (n - 1 - t)) / 10000 * 10000).toInt32 = nI (k / 10000 ^ (n - 1 - t) % 10000) := by
  have hp : 0 < 10000 ^ (n - 1 - t) := Nat.pow_pos (by decide)
  have hp2 : 10000 ^ (n - 1 - t) ≤ 10000 ^ 3 := Nat.pow_le_pow_right (by decide) (by omega)
  have hd : k / 10000 ^ (n - 1 - t) ≤ k := Nat.div_le_self _ _
  rw [zun_n _ (by omega), pk_lDiv hk hp (by omega), show (10000 : Int64) = lN 10000 from rfl, pk_lRem (by omega) (by decide) (by decide), zd_li]
theorem zun_ne {j : Nat} (hj : j ≤ 4) : ¬ zv_un j = 0 ∧ ¬ zv_un j < 1 := by
  have key : ∀ j, j ≤ 4 → ¬ zv_un j = 0 ∧ ¬ zv_un j < 1 := by decide +kernel
  exact key j hj
theorem go_judge (a : Int32) (b : Int64) : zGo 104 199 [.int a, .long b] := by
  intro Z ok
  have h4 := ok.1.1.2.2.1
  by_cases ha' : ¬ (1 ≤ a ∧ a ≤ nI 4)
  · have ha := ha'
    refine ⟨(-2, 0, 0), Z, ok, zCl_q fun g h hB => ⟨g, hB.1, fun _ _ => rfl, zs_X8_judge ((zd_X8_judge _ g h a b).trans ?_)⟩, zMd_q fun g h hB => ?_⟩
    · by_cases h1 : a < 1
      · rw [if_pos h1]
      · rw [if_neg h1, if_pos (Int32.not_le.mp (show ¬ a ≤ 4 from fun z => ha ⟨Int32.not_lt.mp h1, z⟩))]
    · have hst := zd_X9_judge (zv_ev 10) g h a b
      rw [ev_inr1 (dp := 9) (zv_w g 116 0 0, h) 4 a 4 rfl (by decide), if_neg ha] at hst
      exact ⟨_, zN_0 g, zs_X9_judge hst⟩
  have ha := Classical.not_not.mp ha'
  obtain ⟨n, n1, n4, rfl⟩ := zi_1n (by decide) ha
  have hp4 : 10000 ^ n ≤ 10000 ^ 4 := Nat.pow_le_pow_right (by decide) n4
  have hp0 : 0 < 10000 ^ n := Nat.pow_pos (by decide)
  have cl : ∀ g h, zv_m zt_X8_judge (zv_ev 10) false 0 [some (.ref 0), some (.int (nI n)), some (.long b), some .null, none, none, none] [] zS0 (g, h) = (if b < 0 then zv_ri (-2) zS0 (g, h) else if b < zv_un n then ((zv_ev 10 48 [.ref 27, .ref 16] zS0 (g, h)).bind fun p5 => zv_m zt_X8_judge (zv_ev 10) false 43 [some (.ref 0), some (.int (nI n)), some (.long b), some .null, some (.int 0), none, none] [] zS0 p5.2) else zv_ri (-2) zS0 (g, h)) := by
    intro g h
    have hst := zd_X8_judge (zv_ev 10) g h (nI n) b
    rw [if_neg (show ¬ nI n < 1 from nI_nlt (b := 1) n1 (by omega)), if_neg (show ¬ (4 : Int32) < nI n from nI_nlt (a := 4) n4 (by decide)), zi_in (n := 5) (by omega) (by decide), nI_clamp (by omega), cond_true] at hst
    simp only [lg_cmp_lt] at hst
    exact hst
  have md : ∀ g h, zv_m zt_X9_judge (zv_ev 10) false 0 [some (.ref 116), some (.int (nI n)), some (.long b), some .null, none] [] zS0 (g, h) = (if 0 ≤ b ∧ b ≤ zv_un n - 1 then ((zv_ev 10 134 [.ref 120, .ref 119] zS0 (zv_w g 116 0 0, h)).bind fun p6 => zv_m zt_X9_judge (zv_ev 10) false 51 [some (.ref 116), some (.int (nI n)), some (.long b), some .null, some (.int 0)] [] zS0 p6.2) else zv_ri (-2) zS0 (zv_w g 116 0 0, h)) := by
    intro g h
    have hst := zd_X9_judge (zv_ev 10) g h (nI n) b
    rw [ev_inr1 (dp := 9) (zv_w g 116 0 0, h) 4 (nI n) 4 rfl (by decide), if_pos ha] at hst
    simp only [Option.bind_some] at hst
    rw [if_neg (by decide), ev_longPower (dp := 9) (zv_w g 116 0 0, h) n4] at hst
    simp only [Option.bind_some] at hst
    rw [ev_in (dp := 9) (zv_w g 116 0 0, h)] at hst
    simp only [Option.bind_some] at hst
    refine hst.trans ?_
    by_cases q : 0 ≤ b ∧ b ≤ zv_un n - 1
    · rw [if_pos q, if_pos q, if_neg (by decide)]
    · rw [if_neg q, if_neg q, if_pos rfl]
  have hsub : zv_un n - 1 = lN (10000 ^ n - 1) := by
    have key : ∀ n, n ≤ 4 → zv_un n - 1 = lN (10000 ^ n - 1) := by decide +kernel
    exact key n n4
  by_cases hb0 : b < 0
  · refine ⟨(-2, 0, 0), Z, ok, zCl_q fun g h hB => ⟨g, hB.1, fun _ _ => rfl, zs_X8_judge ((cl g h).trans (if_pos hb0))⟩, zMd_q fun g h hB => ⟨_, zN_0 g, zs_X9_judge ((md g h).trans (if_neg (fun z => Int64.not_le.mpr hb0 z.1)))⟩⟩
  obtain ⟨k, hk, rfl⟩ := pk_lOf hb0
  have h0k : (0 : Int64) ≤ lN k := Int64.not_lt.mp hb0
  by_cases hkn' : ¬ k < 10000 ^ n
  · have hkn := hkn'
    refine ⟨(-2, 0, 0), Z, ok, zCl_q fun g h hB => ⟨g, hB.1, fun _ _ => rfl, zs_X8_judge ((cl g h).trans ?_)⟩, zMd_q fun g h hB => ⟨_, zN_0 g, zs_X9_judge ((md g h).trans ?_)⟩⟩
    · rw [if_neg hb0, zun_n n n4, if_neg (fun z => hkn ((pk_lLT hk (by omega)).mp z))]
    · rw [hsub, if_neg (fun z => hkn (by have := (pk_lLE hk (by omega)).mp z.2; omega))]
  have hkn := Classical.not_not.mp hkn'
  refine ⟨(zy_r Z.1.1 (fun t => k / 10000 ^ (n - 1 - t) % 10000) n 0 Z.1.2.1 Z.1.2.2, 0, 0), Z, ok, zCl_t fun g h hB => ?_, zMd_q fun g h hB => ?_⟩
  · obtain ⟨g1, f1, C1, r1⟩ := ev_trial (dp := 8) (Dm := (g, h)) hB.1
    dsimp only at f1 r1
    have F1 : zF 27 43 g g1 := zF_mono f1 (by decide) (by decide)
    have key : ∀ (f t : Nat) (X : zX) (A : zA) (s : Nat → Nat → Int32) (u5 u6 : Option Value), t + f = n → zC 27 s Z.1.1 X A → ∃ s', zF 27 43 s s' ∧ zv_m zt_X8_judge (zv_ev 10) false 43 [some (.ref 0), some (.int (nI n)), some (.long (lN k)), some .null, some (.int (nI t)), u5, u6] [] zS0 (s, h) = zv_ri (zy_r Z.1.1 (fun t => k / 10000 ^ (n - 1 - t) % 10000) f t X A) zS0 (s', h) := by
      intro f
      induction f with
      | zero =>
        intro t X A s u5 u6 ht hC
        refine ⟨s, zF_refl _ _ _, ?_⟩
        rw [zd_X8_judge_43, if_pos (nI_le (by omega) (by omega))]
        rfl
      | succ f ih =>
        intro t X A s u5 u6 ht hC
        have e1 := zd_X8_judge_43 (zv_ev 10) s h (nI n) (lN k) (nI t) u5 u6
        have es : (nI n - 1) - nI t = nI (n - 1 - t) := by
          rw [show nI n - 1 = nI (n - 1) from pk_sub (a := n) (b := 1) n1, pk_sub (by omega)]
        have hu := zun_ne (j := n - 1 - t) (by omega)
        have hs10 : k / 10000 ^ (n - 1 - t) % 10000 < 10000 := Nat.mod_lt _ (by decide)
        rw [if_neg (nI_ge (by omega) (by omega)), es, zi_in (n := 5) (by omega) (by decide), nI_clamp (by omega), zy_dig hk n4 (by omega), nI_1, cond_true] at e1
        simp only [lg_cmp_lt] at e1
        rw [if_neg hu.2, if_neg hu.1] at e1
        obtain ⟨s1, F2, r2, y2⟩ := ev_holds (dp := 2) (g := s) (h := h) hC hs10
        rw [zs_X8_holds r2] at e1
        simp only [Option.bind_some] at e1
        unfold zy_r zy_s
        cases hz : zy Z.1.1 X A (k / 10000 ^ (n - 1 - t) % 10000 / 1000) (k / 10000 ^ (n - 1 - t) % 10000 / 100 % 10) (k / 10000 ^ (n - 1 - t) % 10000 / 10 % 10) (k / 10000 ^ (n - 1 - t) % 10000 % 10) with
        | none =>
          rw [hz] at e1
          exact ⟨s1, F2, e1.trans (if_pos rfl)⟩
        | some p =>
          rw [hz] at e1
          obtain ⟨s2, F3, r3⟩ := ih (t + 1) p.1 p.2 s1 (some (.long (zv_un (n - 1 - t)))) (some .null) (by omega) (y2 p hz)
          exact ⟨s2, zF_trans F2 F3, e1.trans ((if_neg (by simp)).trans r3)⟩
    obtain ⟨g2, F2, r2⟩ := key n 0 Z.1.2.1 Z.1.2.2 g1 none none (by omega) C1
    refine ⟨g2, zF_trans F1 F2, zs_X8_judge ((cl g h).trans ?_)⟩
    rw [if_neg hb0, zun_n n n4, if_pos ((pk_lLT hk (by omega)).mpr hkn), r1]
    exact r2
  · obtain ⟨g0, f0, n0, r0⟩ := ev_lay_120_119 (dp := 9) (zv_w g 116 0 0, h)
    dsimp only at f0 n0 r0
    have R0 : zM_R (g0 120) Z.1.1 Z.1.2.1 Z.1.2.2 := zM_R_of (zBM_0 hB).1 n0 h4
    have N0 : zN g g0 := zN_trans (zN_0 g) (zN_c (fun x hx => f0 x (by omega)))
    have key : ∀ (f t : Nat) (X : zX) (A : zA) (s : Nat → Nat → Int32), t + f = n → zX_ok Z.1.1 X → za_W Z.1.1 A → zM_R (s 120) Z.1.1 X A → ∃ s', zN s s' ∧ zv_m zt_X9_judge (zv_ev 10) false 51 [some (.ref 116), some (.int (nI n)), some (.long (lN k)), some .null, some (.int (nI t))] [] zS0 (s, h) = zv_ri (zy_r Z.1.1 (fun t => k / 10000 ^ (n - 1 - t) % 10000) f t X A) zS0 (s', h) := by
      intro f
      induction f with
      | zero =>
        intro t X A s ht hX hW hR
        refine ⟨s, zN_refl _, ?_⟩
        rw [zd_X9_judge_51, if_pos (nI_le (by omega) (by omega))]
        rfl
      | succ f ih =>
        intro t X A s ht hX hW hR
        have e1 := zd_X9_judge_51 (zv_ev 10) s h (nI n) (lN k) (nI t)
        have es : (nI n - 1) - nI t = nI (n - 1 - t) := by
          rw [show nI n - 1 = nI (n - 1) from pk_sub (a := n) (b := 1) n1, pk_sub (by omega)]
        have hu := zun_ne (j := n - 1 - t) (by omega)
        have hs10 : k / 10000 ^ (n - 1 - t) % 10000 < 10000 := Nat.mod_lt _ (by decide)
        rw [if_neg (nI_ge (by omega) (by omega)), es, ev_longPower (dp := 9) (s, h) (by omega), nI_1] at e1
        simp only [Option.bind_some] at e1
        obtain ⟨s1, F2, r2, y2⟩ := ev_does (dp := 1) (g := s) (h := h) ok.1.1 hX hW hR hs10
        rw [if_neg hu.1, zy_dig hk n4 (by omega), zs_X9_does r2] at e1
        simp only [Option.bind_some] at e1
        unfold zy_r zy_s
        cases hz : zy Z.1.1 X A (k / 10000 ^ (n - 1 - t) % 10000 / 1000) (k / 10000 ^ (n - 1 - t) % 10000 / 100 % 10) (k / 10000 ^ (n - 1 - t) % 10000 / 10 % 10) (k / 10000 ^ (n - 1 - t) % 10000 % 10) with
        | none =>
          rw [hz] at e1
          exact ⟨s1, F2, e1.trans (if_pos rfl)⟩
        | some p =>
          rw [hz] at e1
          have hok := zy_ok ok.1.1 hX hW hz
          obtain ⟨s2, F3, r3⟩ := ih (t + 1) p.1 p.2 s1 (by omega) hok.1 hok.2 (y2 p hz)
          exact ⟨s2, zN_trans F2 F3, e1.trans ((if_neg (by simp)).trans r3)⟩
    obtain ⟨g2, N2, r2⟩ := key n 0 Z.1.2.1 Z.1.2.2 g0 (by omega) ok.1.2.1 ok.1.2.2 R0
    refine ⟨g2, zN_trans N0 N2, zs_X9_judge ((md g h).trans ?_)⟩
    rw [hsub, if_pos ⟨h0k, (pk_lLE hk (by omega)).mpr (by omega)⟩, r0]
    exact r2
