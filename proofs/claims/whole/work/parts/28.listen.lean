/-! ===== hearing ===== -/
theorem zi_0 {c : Nat} (h : c < 2 ^ 31) : (nI c = 0) ↔ c = 0 := nI_eq (a := c) (b := 0) h (by decide)
theorem za_h1_lt {T : zT} {X : zX} {i j c : Nat} {off : Nat → Nat} (hj : j < 5) (h : ∀ e, off e < 2048) (e : Nat) : za_h1 T X i j c off e < 2048 := by
  unfold za_h1
  split
  · split
    · dsimp only
      split
      · exact zc_k_lt (zc_e_lt c) (by omega) (zo32 (zc_m_lt c) hj)
      · exact h e
    · exact h e
  · exact h e
theorem za_h1_no {T : zT} {X : zX} {i j c : Nat} {off : Nat → Nat} (h : za_ok T X i j c = false) : za_h1 T X i j c off = off := by
  unfold za_h1
  rw [h]
  rfl
theorem za_set_h1 {T : zT} {X : zX} {i j c : Nat} {off : Nat → Nat} : za_set (za_h1 T X i j c off) = za_set off ||| (if za_ok T X i j c = true then 2 ^ zc_e c else 0) := by
  by_cases h : za_ok T X i j c = true
  · rw [if_pos h]
    have h2 := z2k (zc_e_lt c)
    refine zs_ext (za_set_lt _) (Nat.or_lt_two_pow (n := 4) (za_set_lt _) h2) fun e he => ?_
    rw [Nat.testBit_or, za_set_tb he, za_set_tb he]
    unfold za_h1
    rw [if_pos h]
    by_cases hec : e = zc_e c
    · subst hec
      rw [Nat.testBit_two_pow_self, Bool.or_true]
      by_cases hb : za_be off j c = true
      · rw [if_pos hb]
        have := zc_k_ge (zc_e c) j (zc_m c ||| 2 ^ j)
        rw [if_pos rfl]
        exact decide_eq_true (by omega)
      · rw [if_neg hb]
        unfold za_be at hb
        simp only [Bool.or_eq_true, decide_eq_true_eq, not_or] at hb
        exact decide_eq_true hb.1
    · rw [Nat.testBit_two_pow_of_ne (fun q => hec q.symm), Bool.or_false]
      split
      · simp only [if_neg hec]
      · rfl
  · rw [if_neg h, Nat.or_zero, za_h1_no (by simpa using h)]
theorem za_o0_lt {T : zT} {X : zX} {i : Nat} (hi : i < 5) (e : Nat) : za_o0 T X i e < 2048 := by
  unfold za_o0
  split
  · rename_i h; exact zc_k_lt h.1 (by omega) (by decide)
  · decide
theorem za_of_lt {T : zT} {X : zX} {A : zA} {i : Nat} (hi : i < 5) : ∀ j, j ≤ 5 → ∀ e, za_of T X A i j e < 2048 := by
  intro j
  induction j with
  | zero => intro _ e; exact za_o0_lt hi e
  | succ j ih => intro hj e; exact za_h1_lt (by omega) (fun e => za_h1_lt (by omega) (ih (by omega)) e) e
theorem ev_take_16 {dp : Nat} {Dm : zv_D} {T : zT} {X : zX} {i j c t : Nat} {off : Nat → Nat} (hT : zT_ok T) (hn : Dm.1 21 i = nI (zf_set (za_nr T X i))) (hi : i < 5) (hj : j < 5) (ht : t < 32) (htb : ∀ f, f < 5 → t.testBit f = za_te T j i f) (hc : za_R T j c) (hof : ∀ e, e < 4 → Dm.1 25 e = nI (off e)) (ho2 : ∀ e, off e < 2048) :
    ∃ g', (∀ x, x ≠ 25 → g' x = Dm.1 x) ∧ (∀ e, e < 4 → g' 25 e = nI (za_h1 T X i j c off e)) ∧ zv_ev (dp + 2) 60 [.ref 16, .int (nI i), .int (nI j), .int (nI t), .int (nI c)] zS0 Dm = zo_i (nI (if za_ok T X i j c = true then 2 ^ zc_e c else 0)) (g', Dm.2) := by
  have hc2 := za_R_lt hc
  have hel := zc_e_lt c
  have hml := zc_m_lt c
  have hmj := zo32 hml hj
  have hj2 : 2 ^ j < 2048 := by
    have : 2 ^ j ≤ 2 ^ 4 := Nat.pow_le_pow_right (by decide) (by omega)
    omega
  have no : za_ok T X i j c = false → zv_m zt_X6_take (zv_ev (dp + 1)) false 0 [some (.ref 16), some (.int (nI i)), some (.int (nI j)), some (.int (nI t)), some (.int (nI c)), none, none, none] [] zS0 (Dm.1, Dm.2) = zv_ri 0 zS0 (Dm.1, Dm.2) → ∃ g', (∀ x, x ≠ 25 → g' x = Dm.1 x) ∧ (∀ e, e < 4 → g' 25 e = nI (za_h1 T X i j c off e)) ∧ zv_ev (dp + 2) 60 [.ref 16, .int (nI i), .int (nI j), .int (nI t), .int (nI c)] zS0 Dm = zo_i (nI (if za_ok T X i j c = true then 2 ^ zc_e c else 0)) (g', Dm.2) := by
    intro hk hz
    refine ⟨Dm.1, fun _ _ => rfl, fun e he => by rw [za_h1_no hk]; exact hof e he, ?_⟩
    rw [hk]
    exact zs_X6_take_16 hz
  by_cases h0 : c = 0
  · refine no (by unfold za_ok; simp [h0]) ?_
    rw [zd_X6_take_16, if_pos ((zi_0 (by omega)).mpr h0)]
  rcases hc with hc | ⟨c1, -, c3, c4, c5⟩
  · exact absurd hc h0
  have hf5 : zc_f c < 5 := by have := hT.2.1; omega
  have hst : zv_m zt_X6_take (zv_ev (dp + 1)) false 0 [some (.ref 16), some (.int (nI i)), some (.int (nI j)), some (.int (nI t)), some (.int (nI c)), none, none, none] [] zS0 (Dm.1, Dm.2) = _ := zd_X6_take_16 (zv_ev (dp + 1)) Dm.1 Dm.2 (nI i) (nI j) (nI t) (nI c)
  rw [if_neg (fun z => h0 ((zi_0 (by omega)).mp z)), zi_e hc2, zi_f hc2, zi_m (c := c) (by omega), zi_sh hj, zi_or (by omega) hj2] at hst
  by_cases b1 : t.testBit (zc_f c) = false
  · refine no (by unfold za_ok; rw [← htb _ hf5, b1]; simp) (hst.trans ?_)
    rw [if_pos (by rw [zi_b0t (by omega) (by omega)]; exact b1)]
  rw [if_neg (by rw [zi_b0t (by omega) (by omega)]; exact b1)] at hst
  by_cases b2 : (zc_m c ||| 2 ^ j).testBit i = true
  · refine no (by unfold za_ok; rw [b2]; simp) (hst.trans ?_)
    rw [if_pos (by rw [zi_b1t (by omega) (by omega)]; exact b2)]
  rw [if_neg (by rw [zi_b1t (by omega) (by omega)]; exact b2), zi_in hi (by decide), nI_clamp (by omega), hn, cond_true] at hst
  have hnl := zf_set_lt (za_nr T X i)
  have hnb : (zf_set (za_nr T X i)).testBit (zc_e c) = za_nr T X i (zc_e c) := by rw [zf_set_tb]; simp [hel]
  by_cases b3 : za_nr T X i (zc_e c) = false
  · refine no (by unfold za_ok; rw [b3]; simp) (hst.trans ?_)
    rw [if_pos (by rw [zi_b0t (by omega) (by omega), hnb]; exact b3)]
  rw [if_neg (by rw [zi_b0t (by omega) (by omega), hnb]; exact b3), zi_in hel (by decide), nI_clamp (by omega), hof _ hel, cond_true, zi_sh (by omega), ev_routeOf (dp := dp) (Dm.1, Dm.2), zi_k hel (by omega) hmj] at hst
  have hok : za_ok T X i j c = true := by
    unfold za_ok
    rw [← htb _ hf5]
    simp only [Bool.not_eq_false, Bool.not_eq_true] at b1 b2 b3
    rw [b1, b2, b3]
    simp [h0]
  -- it is put down
  have put : zv_m zt_X6_take (zv_ev (dp + 1)) false 0 [some (.ref 16), some (.int (nI i)), some (.int (nI j)), some (.int (nI t)), some (.int (nI c)), none, none, none] [] zS0 (Dm.1, Dm.2) = zv_ri (nI (2 ^ zc_e c)) zS0 (zv_w Dm.1 25 (zc_e c) (nI (zc_k (zc_e c) j (zc_m c ||| 2 ^ j))), Dm.2) → za_be off j c = true → ∃ g', (∀ x, x ≠ 25 → g' x = Dm.1 x) ∧ (∀ e, e < 4 → g' 25 e = nI (za_h1 T X i j c off e)) ∧ zv_ev (dp + 2) 60 [.ref 16, .int (nI i), .int (nI j), .int (nI t), .int (nI c)] zS0 Dm = zo_i (nI (if za_ok T X i j c = true then 2 ^ zc_e c else 0)) (g', Dm.2) := by
    intro hz hb
    refine ⟨_, fun x hx => zw_cell _ _ _ hx, fun e he => ?_, (zs_X6_take_16 hz).trans (by rw [if_pos hok])⟩
    unfold za_h1
    rw [if_pos hok, if_pos hb]
    by_cases hec : e = zc_e c
    · subst hec; simp only [if_pos rfl]; exact zw_same _ _ _ _
    · simp only [if_neg hec]; rw [zw_other _ _ _ hec]; exact hof e he
  have ho3 := ho2 (zc_e c)
  by_cases b4 : off (zc_e c) = 0
  · rw [if_pos ((zi_0 (by omega)).mpr b4)] at hst
    exact put hst (by unfold za_be; simp [b4])
  rw [if_neg (fun z => b4 ((zi_0 (by omega)).mp z)), zi_m (by omega), ev_bitCount (dp := dp) (Dm.1, Dm.2) hmj] at hst
  simp only [Option.bind_some] at hst
  rw [ev_bitCount (dp := dp) (Dm.1, Dm.2) (zc_m_lt _)] at hst
  simp only [Option.bind_some] at hst
  have l1 := za_pc_lt (zc_m c ||| 2 ^ j)
  have l2 := za_pc_lt (zc_m (off (zc_e c)))
  by_cases b5 : za_pc (zc_m (off (zc_e c))) ≤ za_pc (zc_m c ||| 2 ^ j)
  · rw [if_pos (nI_le b5 (by omega))] at hst
    refine ⟨Dm.1, fun _ _ => rfl, fun e he => ?_, (zs_X6_take_16 hst).trans (by rw [if_pos hok])⟩
    unfold za_h1
    rw [if_pos hok, if_neg (by unfold za_be; simp only [Bool.or_eq_true, decide_eq_true_eq, not_or]; exact ⟨b4, by omega⟩)]
    exact hof e he
  · rw [if_neg (nI_ge (by omega) (by omega)), ev_routeOf (dp := dp) (Dm.1, Dm.2), zi_k hel (by omega) hmj] at hst
    exact put hst (by unfold za_be; simp only [Bool.or_eq_true, decide_eq_true_eq]; right; omega)
theorem ev_listen_16 {dp : Nat} {Dm : zv_D} {T : zT} {X : zX} {A : zA} {i : Nat} (hC : zC 16 Dm.1 T X A) (hi : i < zT_n T) :
    ∃ g', (∀ x, x ≠ 25 → g' x = Dm.1 x) ∧ (∀ e, e < 4 → g' 25 e = nI (za_hd T X A i e)) ∧ zv_ev (dp + 3) 59 [.ref 16, .int (nI i)] zS0 Dm = zo_i (nI (za_set (za_hd T X A i))) (g', Dm.2) := by
  obtain ⟨hT, hX, hW, cT, cX, cQ⟩ := hC
  have h5 := hT.2.1
  have i5 : i < 5 := by omega
  have c0 : Dm.1 9 0 = nI (zT_n T) := cT.1
  have c5 : Dm.1 15 i = nI (za_ho T i) := cT.2.2.2.2.2.2.1 i i5
  have c6 : Dm.1 17 3 = nI (zX_up X) := cX.2.2.2.1
  have c7 : Dm.1 21 i = nI (zf_set (za_nr T X i)) := cQ.2.1 i i5
  have c8 : ∀ j, j < 5 → Dm.1 20 j = nI (A j 0 + 2048 * A j 1) := cX.2.2.1
  have hup : zX_up X < 16 := by
    have h1 := hX.2.2.2.2.1
    have : 2 ^ zT_m T ≤ 2 ^ 4 := Nat.pow_le_pow_right (by decide) hT.2.2.1
    omega
  have hho := za_ho_lt T i
  have hown : ∀ e, e < 4 → (za_ho T i &&& zX_up X).testBit e = za_ow T X i e := by
    intro e he
    rw [Nat.testBit_and]
    unfold za_ho za_ow
    rw [zf_set_tb]
    simp [he]
  have ho16 : (za_ho T i &&& zX_up X) < 16 := Nat.lt_of_le_of_lt Nat.and_le_left hho
  have hset0 : za_set (za_o0 T X i) = za_ho T i &&& zX_up X := by
    refine zs_ext (za_set_lt _) ho16 fun e he => ?_
    rw [za_set_tb he, hown e he]
    unfold za_o0
    by_cases hw : za_ow T X i e = true
    · rw [if_pos ⟨he, hw⟩, hw]
      exact decide_eq_true (by have := zc_k_ge e i 0; omega)
    · rw [if_neg (fun z => hw z.2)]
      simpa using hw
  -- the first loop
  obtain ⟨g1, ⟨f1, o1⟩, r1⟩ := zl_up (fun k (g' : Nat → Nat → Int32) => zv_m zt_X6_listen (zv_ev (dp + 2)) false 31 [some (.ref 16), some (.int (nI i)), some (.int (nI (za_ho T i &&& zX_up X))), some (.int (nI k)), none, none] [] zS0 (g', Dm.2)) 4 (fun k g' => (∀ x, x ≠ 25 → g' x = Dm.1 x) ∧ ∀ e, e < k → g' 25 e = nI (za_o0 T X i e)) (by
    intro k g' hk ⟨hf, ho⟩
    refine ⟨zv_w g' 25 k (nI (za_o0 T X i k)), ⟨fun x hx => (zw_cell _ _ _ hx).trans (hf x hx), fun e he => ?_⟩, ?_⟩
    · by_cases hek : e = k
      · subst hek; exact zw_same _ _ _ _
      · rw [zw_other _ _ _ hek]; exact ho e (by omega)
    · rw [zd_X6_listen_16_31, if_neg (zi_ge 4 4 rfl hk (by decide)), zi_in hk (by decide), nI_clamp (by omega), nI_1]
      by_cases hw : za_ow T X i k = true
      · rw [if_pos (by rw [zi_b1t (by omega) (by omega), hown k hk]; exact hw), show (0 : Int32) = nI 0 from rfl, ev_routeOf (dp := dp + 1) (g', Dm.2), zi_k hk (by omega) (by decide)]
        unfold za_o0
        rw [if_pos ⟨hk, hw⟩]
        rfl
      · rw [if_neg (by rw [zi_b1t (by omega) (by omega), hown k hk]; exact hw)]
        unfold za_o0
        rw [if_neg (fun z => hw z.2)]
        rfl) Dm.1 ⟨fun _ _ => rfl, fun e he => absurd he (Nat.not_lt_zero e)⟩
  -- the second loop
  obtain ⟨⟨g2, s2, v2⟩, ⟨f2, o2, e2⟩, r2⟩ := zl_up (σ := (Nat → Nat → Int32) × Nat × Option Value) (fun k p => zv_m zt_X6_listen (zv_ev (dp + 2)) false 72 [some (.ref 16), some (.int (nI i)), some (.int (nI (za_ho T i &&& zX_up X))), some (.int (nI p.2.1)), some (.int (nI k)), p.2.2] [] zS0 (p.1, Dm.2)) (zT_n T) (fun k p => (∀ x, x ≠ 25 → p.1 x = Dm.1 x) ∧ (∀ e, e < 4 → p.1 25 e = nI (za_of T X A i k e)) ∧ p.2.1 = za_set (za_of T X A i k)) (by
    rintro k ⟨g', s, v⟩ hk ⟨hf, ho, hs⟩
    dsimp only at hf ho hs
    subst hs
    obtain ⟨t, ht, htg, htb⟩ := cT.2.2.2.2.2.2.2 k i (by omega) i5
    have hR0 := hW.1 k 0
    have hR1 := hW.1 k 1
    have l0 := za_R_lt hR0
    have l1 := za_R_lt hR1
    have hst := zd_X6_listen_16_72 (zv_ev (dp + 2)) g' Dm.2 (nI i) (some (.int (nI (za_ho T i &&& zX_up X)))) (nI (za_set (za_of T X A i k))) (nI k) v
    rw [hf 9 (by decide), c0, if_neg (nI_ge hk (by omega)), if_neg (zi_ge 5 5 rfl (by omega) (by decide)), ev_toldBy (dp := dp + 1) (g', Dm.2) (by omega : k < 5) i5] at hst
    simp only [Option.bind_some] at hst
    rw [hf 11 (by decide), htg, nI_1, zi_in (by omega) (by decide), nI_clamp (by omega), cond_true] at hst
    have skip : za_ok T X i k (A k 0) = false → za_ok T X i k (A k 1) = false → za_of T X A i (k + 1) = za_of T X A i k := by
      intro n0 n1
      show za_h1 T X i k (A k 1) (za_h1 T X i k (A k 0) (za_of T X A i k)) = _
      rw [za_h1_no n0, za_h1_no n1]
    by_cases b1 : t = 0
    · rw [if_pos ((zi_0 (by omega)).mpr b1)] at hst
      have nk : ∀ c, za_R T k c → za_ok T X i k c = false := by
        intro c hc
        rcases hc with hc | hc
        · unfold za_ok; simp [hc]
        · have := htb (zc_f c) (by omega)
          rw [b1, Nat.zero_testBit] at this
          unfold za_ok
          rw [← this]
          simp
      exact ⟨(g', za_set (za_of T X A i k), _), ⟨hf, by rw [skip (nk _ hR0) (nk _ hR1)]; exact ho, by rw [skip (nk _ hR0) (nk _ hR1)]⟩, hst⟩
    rw [if_neg (fun z => b1 ((zi_0 (by omega)).mp z)), hf 20 (by decide), c8 k (by omega)] at hst
    by_cases b2 : A k 0 + 2048 * A k 1 = 0
    · rw [if_pos ((zi_0 (by omega)).mpr b2)] at hst
      have n0 : za_ok T X i k (A k 0) = false := by unfold za_ok; simp [show A k 0 = 0 by omega]
      have n1 : za_ok T X i k (A k 1) = false := by unfold za_ok; simp [show A k 1 = 0 by omega]
      exact ⟨(g', za_set (za_of T X A i k), _), ⟨hf, by rw [skip n0 n1]; exact ho, by rw [skip n0 n1]⟩, hst⟩
    obtain ⟨g1', p1, p2, p3⟩ := ev_take_16 (dp := dp) (Dm := (g', Dm.2)) (X := X) (i := i) (j := k) (c := A k 0) (off := za_of T X A i k) hT ((congrFun (hf 21 (by decide)) i).trans c7) i5 (by omega) ht htb hR0 ho (za_of_lt i5 k (by omega))
    dsimp only at p1 p3
    rw [if_neg (fun z => b2 ((zi_0 (by omega)).mp z)), zi_lo (by omega), show (A k 0 + 2048 * A k 1) % 2048 = A k 0 by omega, p3] at hst
    simp only [Option.bind_some] at hst
    obtain ⟨g2', p4, p5, p6⟩ := ev_take_16 (dp := dp) (Dm := (g1', Dm.2)) (X := X) (i := i) (j := k) (c := A k 1) (off := za_h1 T X i k (A k 0) (za_of T X A i k)) hT ((congrFun ((p1 21 (by decide)).trans (hf 21 (by decide))) i).trans c7) i5 (by omega) ht htb hR1 p2 (za_h1_lt (by omega) (za_of_lt i5 k (by omega)))
    dsimp only at p4 p6
    rw [p1 20 (by decide), hf 20 (by decide), c8 k (by omega), zi_hi (by omega), show (A k 0 + 2048 * A k 1) / 2048 = A k 1 by omega, p6] at hst
    simp only [Option.bind_some] at hst
    have w0 : (if za_ok T X i k (A k 0) = true then 2 ^ zc_e (A k 0) else 0) < 16 := by
      split
      · exact z2k (zc_e_lt _)
      · decide
    have w1 : (if za_ok T X i k (A k 1) = true then 2 ^ zc_e (A k 1) else 0) < 16 := by
      split
      · exact z2k (zc_e_lt _)
      · decide
    have ws := za_set_lt (za_of T X A i k)
    have ws2 : za_set (za_of T X A i k) ||| (if za_ok T X i k (A k 0) = true then 2 ^ zc_e (A k 0) else 0) < 16 := Nat.or_lt_two_pow (n := 4) ws w0
    rw [zi_or (by omega) (by omega), zi_or (by omega) (by omega), ← za_set_h1, ← za_set_h1] at hst
    exact ⟨(g2', _, _), ⟨fun x hx => (p4 x hx).trans ((p1 x hx).trans (hf x hx)), p5, rfl⟩, hst⟩) (g1, za_set (za_of T X A i 0), none) ⟨f1, o1, rfl⟩
  dsimp only at f2 o2 e2 r1 r2
  refine ⟨g2, f2, o2, zs_X6_listen_16 ((zd_X6_listen_16 _ Dm.1 Dm.2 _).trans ?_)⟩
  rw [if_neg (nI_pos (by omega)), if_pos (show nI i < 5 from (nI_ltI (b := 5) (by omega) (by decide)).mpr i5), zi_in i5 (by decide), nI_clamp (by omega), c5, c6, zi_and (by omega) (by omega), cond_true]
  refine r1.trans ?_
  rw [zd_X6_listen_16_31, if_pos (zi_le 4 4 rfl (by decide) (by decide))]
  have hset1 : za_set (za_of T X A i 0) = za_ho T i &&& zX_up X := hset0
  rw [hset1] at r2
  refine r2.trans ?_
  rw [zd_X6_listen_16_72, f2 9 (by decide), c0, if_pos (nI_le (Nat.le_refl _) (by omega)), e2]
  rfl
theorem zC_9_16 {g g' : Nat → Nat → Int32} {T : zT} {X : zX} {A : zA} (h : zC 16 g T X A) (hf : ∀ x, x ≠ 23 → x ≠ 24 → x ≠ 25 → x ≠ 26 → g' x = g x) (hQ : zC_Q 16 g' T X) : zC 16 g' T X A :=
  ⟨h.1, h.2.1, h.2.2.1, zC_T_of h.2.2.2.1 (fun c h3 h4 => hf c (by omega) (by omega) (by omega) (by omega)), zC_X_of h.2.2.2.2.1 (fun c h3 h4 => hf c (by omega) (by omega) (by omega) (by omega)), hQ⟩
theorem ev_decide_16 {dp : Nat} {Dm : zv_D} {T : zT} {X : zX} {A : zA} {i : Nat} (hC : zC 16 Dm.1 T X A) (hi : i < zT_n T) :
    ∃ g', (∀ x, x ≠ 23 → x ≠ 24 → x ≠ 25 → g' x = Dm.1 x) ∧ zC 16 g' T X A ∧ zv_ev (dp + 4) 58 [.ref 16, .int (nI i)] zS0 Dm = zo_i (nI (za_de T X A i 0 + 2048 * za_de T X A i 1)) (g', Dm.2) := by
  have hT := hC.1
  have h5 := hT.2.1
  have i5 : i < 5 := by omega
  have hW := hC.2.2.1
  have hex : zX_ex X < 32 := by
    have h1 := hC.2.1.2.2.2.2.2.1
    have : 2 ^ zT_n T ≤ 2 ^ 5 := Nat.pow_le_pow_right (by decide) h5
    omega
  have cex : Dm.1 17 4 = nI (zX_ex X) := hC.2.2.2.2.1.2.2.2.2.1
  obtain ⟨g1, f1, o1, r1⟩ := ev_listen_16 (dp := dp + 1 - 1) (Dm := Dm) hC hi
  have hC1 : zC 16 g1 T X A := zC_9_16 hC (fun x _ _ h9 _ => f1 x h9) (zC_Q_of hC.2.2.2.2.2 (fun x h1 h2 => f1 x (by omega)))
  have s16 := za_set_lt (za_hd T X A i)
  have hsm : ∀ e, e < 4 → (za_set (za_hd T X A i)).testBit e = true → e < zT_m T := by
    intro e he hb
    rw [za_set_tb he] at hb
    exact (za_Fn hT hW hi (X := X) (zT_n T) (Nat.le_refl _) e (of_decide_eq_true hb)).1
  obtain ⟨g2, f2, q2, r2⟩ := ev_pick_16 (dp := dp) (Dm := (g1, Dm.2)) (i := i) hC1 i5 s16 hsm
  dsimp only at f2 r2
  have hC2 : zC 16 g2 T X A := zC_9_16 hC1 (fun x h7 h8 _ _ => f2 x h7 h8) q2
  have hlt : ∀ e, za_hd T X A i e < 2048 := fun e => za_R_lt (za_hd_R hT hW hi e)
  have hst := zd_X6_decide_16 (zv_ev (dp + 3)) Dm.1 Dm.2 (nI i)
  replace r1 : zv_ev (dp + 3) 59 [.ref 16, .int (nI i)] zS0 (Dm.1, Dm.2) = zo_i (nI (za_set (za_hd T X A i))) (g1, Dm.2) := r1
  rw [r1] at hst
  simp only [Option.bind_some] at hst
  rw [r2] at hst
  simp only [Option.bind_some] at hst
  have fr : ∀ x, x ≠ 23 → x ≠ 24 → x ≠ 25 → g2 x = Dm.1 x := fun x h7 h8 h9 => (f2 x h7 h8).trans (f1 x h9)
  by_cases p4 : za_s1 T X A i < 4
  · have d0 : za_de T X A i 0 = za_hd T X A i (za_s1 T X A i) := by
      unfold za_de; rw [if_pos p4, if_pos rfl]
    have d1 : za_de T X A i 1 = if (zX_ex X).testBit i = true ∧ za_s2 T X A i < 4 then za_hd T X A i (za_s2 T X A i) else 0 := by
      unfold za_de; rw [if_pos p4, if_neg (by decide)]; simp only [true_and]
    have e1 : zf_pi (za_pk T X i (za_set (za_hd T X A i))) = nI (za_s1 T X A i) := zf_pi_in p4
    rw [e1, if_neg (nI_pos (by omega)), if_pos (show nI (za_s1 T X A i) < 4 from (nI_ltI (b := 4) (by omega) (by decide)).mpr p4), zi_in p4 (by decide), nI_clamp (by omega), cond_true, fr 17 (by decide) (by decide) (by decide), cex, f2 25 (by decide) (by decide), o1 _ p4, zi_rm s16 p4] at hst
    by_cases hx : (zX_ex X).testBit i = true
    · rw [if_pos (by rw [zi_b1t (by omega) (by omega)]; exact hx)] at hst
      have t16 : za_rm (za_set (za_hd T X A i)) (za_s1 T X A i) < 16 := za_rm_lt s16
      obtain ⟨g3, f3, q3, r3⟩ := ev_pick_16 (dp := dp) (Dm := (g2, Dm.2)) (i := i) (s := za_rm (za_set (za_hd T X A i)) (za_s1 T X A i)) hC2 i5 t16 (fun e he hb => by
        rw [za_rm_tb s16 p4 he, Bool.and_eq_true] at hb
        exact hsm e he hb.1)
      dsimp only at f3 r3
      have hC3 : zC 16 g3 T X A := zC_9_16 hC2 (fun x h7 h8 _ _ => f3 x h7 h8) q3
      rw [r3] at hst
      simp only [Option.bind_some] at hst
      refine ⟨g3, fun x h7 h8 h9 => (f3 x h7 h8).trans (fr x h7 h8 h9), hC3, (zs_X6_decide_16 (hst.trans ?_))⟩
      rw [d0, d1]
      by_cases p5 : za_s2 T X A i < 4
      · have e2 : zf_pi (za_pk T X i (za_rm (za_set (za_hd T X A i)) (za_s1 T X A i))) = nI (za_s2 T X A i) := zf_pi_in p5
        rw [e2, if_neg (nI_pos (by omega)), if_neg (zi_ge 4 4 rfl p5 (by decide)), zi_in p5 (by decide), nI_clamp (by omega), cond_true, f3 25 (by decide) (by decide), f2 25 (by decide) (by decide), o1 _ p5, zi_up (hlt _), zi_sum (hlt _) (hlt _), if_pos ⟨hx, p5⟩]
      · have e2 : zf_pi (za_pk T X i (za_rm (za_set (za_hd T X A i)) (za_s1 T X A i))) = -1 := by
          have : za_pk T X i (za_rm (za_set (za_hd T X A i)) (za_s1 T X A i)) = 4 := by
            have h1 := za_pk_le T X i (za_rm (za_set (za_hd T X A i)) (za_s1 T X A i))
            have h2 : ¬ za_pk T X i (za_rm (za_set (za_hd T X A i)) (za_s1 T X A i)) < 4 := p5
            omega
          rw [this]; rfl
        rw [e2, if_pos (by decide), if_neg (fun z => p5 z.2), Int32.or_zero, Nat.mul_zero, Nat.add_zero]
    · rw [if_neg (by rw [zi_b1t (by omega) (by omega)]; exact hx)] at hst
      refine ⟨g2, fr, hC2, (zs_X6_decide_16 (hst.trans ?_))⟩
      rw [d0, d1, if_neg (fun z => hx z.1), Nat.mul_zero, Nat.add_zero]
  · have e1 : zf_pi (za_pk T X i (za_set (za_hd T X A i))) = -1 := by
      have : za_pk T X i (za_set (za_hd T X A i)) = 4 := by
        have h1 := za_pk_le T X i (za_set (za_hd T X A i))
        have h2 : ¬ za_pk T X i (za_set (za_hd T X A i)) < 4 := p4
        omega
      rw [this]; rfl
    rw [e1, if_pos (by decide)] at hst
    refine ⟨g2, fr, hC2, (zs_X6_decide_16 (hst.trans ?_))⟩
    unfold za_de
    rw [if_neg p4, if_neg p4]
    rfl
theorem ev_take_27 {dp : Nat} {Dm : zv_D} {T : zT} {X : zX} {i j c t : Nat} {off : Nat → Nat} (hT : zT_ok T) (hn : Dm.1 32 i = nI (zf_set (za_nr T X i))) (hi : i < 5) (hj : j < 5) (ht : t < 32) (htb : ∀ f, f < 5 → t.testBit f = za_te T j i f) (hc : za_R T j c) (hof : ∀ e, e < 4 → Dm.1 36 e = nI (off e)) (ho2 : ∀ e, off e < 2048) :
    ∃ g', (∀ x, x ≠ 36 → g' x = Dm.1 x) ∧ (∀ e, e < 4 → g' 36 e = nI (za_h1 T X i j c off e)) ∧ zv_ev (dp + 2) 60 [.ref 27, .int (nI i), .int (nI j), .int (nI t), .int (nI c)] zS0 Dm = zo_i (nI (if za_ok T X i j c = true then 2 ^ zc_e c else 0)) (g', Dm.2) := by
  have hc2 := za_R_lt hc
  have hel := zc_e_lt c
  have hml := zc_m_lt c
  have hmj := zo32 hml hj
  have hj2 : 2 ^ j < 2048 := by
    have : 2 ^ j ≤ 2 ^ 4 := Nat.pow_le_pow_right (by decide) (by omega)
    omega
  have no : za_ok T X i j c = false → zv_m zt_X6_take (zv_ev (dp + 1)) false 0 [some (.ref 27), some (.int (nI i)), some (.int (nI j)), some (.int (nI t)), some (.int (nI c)), none, none, none] [] zS0 (Dm.1, Dm.2) = zv_ri 0 zS0 (Dm.1, Dm.2) → ∃ g', (∀ x, x ≠ 36 → g' x = Dm.1 x) ∧ (∀ e, e < 4 → g' 36 e = nI (za_h1 T X i j c off e)) ∧ zv_ev (dp + 2) 60 [.ref 27, .int (nI i), .int (nI j), .int (nI t), .int (nI c)] zS0 Dm = zo_i (nI (if za_ok T X i j c = true then 2 ^ zc_e c else 0)) (g', Dm.2) := by
    intro hk hz
    refine ⟨Dm.1, fun _ _ => rfl, fun e he => by rw [za_h1_no hk]; exact hof e he, ?_⟩
    rw [hk]
    exact zs_X6_take_27 hz
  by_cases h0 : c = 0
  · refine no (by unfold za_ok; simp [h0]) ?_
    rw [zd_X6_take_27, if_pos ((zi_0 (by omega)).mpr h0)]
  rcases hc with hc | ⟨c1, -, c3, c4, c5⟩
  · exact absurd hc h0
  have hf5 : zc_f c < 5 := by have := hT.2.1; omega
  have hst : zv_m zt_X6_take (zv_ev (dp + 1)) false 0 [some (.ref 27), some (.int (nI i)), some (.int (nI j)), some (.int (nI t)), some (.int (nI c)), none, none, none] [] zS0 (Dm.1, Dm.2) = _ := zd_X6_take_27 (zv_ev (dp + 1)) Dm.1 Dm.2 (nI i) (nI j) (nI t) (nI c)
  rw [if_neg (fun z => h0 ((zi_0 (by omega)).mp z)), zi_e hc2, zi_f hc2, zi_m (c := c) (by omega), zi_sh hj, zi_or (by omega) hj2] at hst
  by_cases b1 : t.testBit (zc_f c) = false
  · refine no (by unfold za_ok; rw [← htb _ hf5, b1]; simp) (hst.trans ?_)
    rw [if_pos (by rw [zi_b0t (by omega) (by omega)]; exact b1)]
  rw [if_neg (by rw [zi_b0t (by omega) (by omega)]; exact b1)] at hst
  by_cases b2 : (zc_m c ||| 2 ^ j).testBit i = true
  · refine no (by unfold za_ok; rw [b2]; simp) (hst.trans ?_)
    rw [if_pos (by rw [zi_b1t (by omega) (by omega)]; exact b2)]
  rw [if_neg (by rw [zi_b1t (by omega) (by omega)]; exact b2), zi_in hi (by decide), nI_clamp (by omega), hn, cond_true] at hst
  have hnl := zf_set_lt (za_nr T X i)
  have hnb : (zf_set (za_nr T X i)).testBit (zc_e c) = za_nr T X i (zc_e c) := by rw [zf_set_tb]; simp [hel]
  by_cases b3 : za_nr T X i (zc_e c) = false
  · refine no (by unfold za_ok; rw [b3]; simp) (hst.trans ?_)
    rw [if_pos (by rw [zi_b0t (by omega) (by omega), hnb]; exact b3)]
  rw [if_neg (by rw [zi_b0t (by omega) (by omega), hnb]; exact b3), zi_in hel (by decide), nI_clamp (by omega), hof _ hel, cond_true, zi_sh (by omega), ev_routeOf (dp := dp) (Dm.1, Dm.2), zi_k hel (by omega) hmj] at hst
  have hok : za_ok T X i j c = true := by
    unfold za_ok
    rw [← htb _ hf5]
    simp only [Bool.not_eq_false, Bool.not_eq_true] at b1 b2 b3
    rw [b1, b2, b3]
    simp [h0]
  -- it is put down
  have put : zv_m zt_X6_take (zv_ev (dp + 1)) false 0 [some (.ref 27), some (.int (nI i)), some (.int (nI j)), some (.int (nI t)), some (.int (nI c)), none, none, none] [] zS0 (Dm.1, Dm.2) = zv_ri (nI (2 ^ zc_e c)) zS0 (zv_w Dm.1 36 (zc_e c) (nI (zc_k (zc_e c) j (zc_m c ||| 2 ^ j))), Dm.2) → za_be off j c = true → ∃ g', (∀ x, x ≠ 36 → g' x = Dm.1 x) ∧ (∀ e, e < 4 → g' 36 e = nI (za_h1 T X i j c off e)) ∧ zv_ev (dp + 2) 60 [.ref 27, .int (nI i), .int (nI j), .int (nI t), .int (nI c)] zS0 Dm = zo_i (nI (if za_ok T X i j c = true then 2 ^ zc_e c else 0)) (g', Dm.2) := by
    intro hz hb
    refine ⟨_, fun x hx => zw_cell _ _ _ hx, fun e he => ?_, (zs_X6_take_27 hz).trans (by rw [if_pos hok])⟩
    unfold za_h1
    rw [if_pos hok, if_pos hb]
    by_cases hec : e = zc_e c
    · subst hec; simp only [if_pos rfl]; exact zw_same _ _ _ _
    · simp only [if_neg hec]; rw [zw_other _ _ _ hec]; exact hof e he
  have ho3 := ho2 (zc_e c)
  by_cases b4 : off (zc_e c) = 0
  · rw [if_pos ((zi_0 (by omega)).mpr b4)] at hst
    exact put hst (by unfold za_be; simp [b4])
  rw [if_neg (fun z => b4 ((zi_0 (by omega)).mp z)), zi_m (by omega), ev_bitCount (dp := dp) (Dm.1, Dm.2) hmj] at hst
  simp only [Option.bind_some] at hst
  rw [ev_bitCount (dp := dp) (Dm.1, Dm.2) (zc_m_lt _)] at hst
  simp only [Option.bind_some] at hst
  have l1 := za_pc_lt (zc_m c ||| 2 ^ j)
  have l2 := za_pc_lt (zc_m (off (zc_e c)))
  by_cases b5 : za_pc (zc_m (off (zc_e c))) ≤ za_pc (zc_m c ||| 2 ^ j)
  · rw [if_pos (nI_le b5 (by omega))] at hst
    refine ⟨Dm.1, fun _ _ => rfl, fun e he => ?_, (zs_X6_take_27 hst).trans (by rw [if_pos hok])⟩
    unfold za_h1
    rw [if_pos hok, if_neg (by unfold za_be; simp only [Bool.or_eq_true, decide_eq_true_eq, not_or]; exact ⟨b4, by omega⟩)]
    exact hof e he
  · rw [if_neg (nI_ge (by omega) (by omega)), ev_routeOf (dp := dp) (Dm.1, Dm.2), zi_k hel (by omega) hmj] at hst
    exact put hst (by unfold za_be; simp only [Bool.or_eq_true, decide_eq_true_eq]; right; omega)
theorem ev_listen_27 {dp : Nat} {Dm : zv_D} {T : zT} {X : zX} {A : zA} {i : Nat} (hC : zC 27 Dm.1 T X A) (hi : i < zT_n T) :
    ∃ g', (∀ x, x ≠ 36 → g' x = Dm.1 x) ∧ (∀ e, e < 4 → g' 36 e = nI (za_hd T X A i e)) ∧ zv_ev (dp + 3) 59 [.ref 27, .int (nI i)] zS0 Dm = zo_i (nI (za_set (za_hd T X A i))) (g', Dm.2) := by
  obtain ⟨hT, hX, hW, cT, cX, cQ⟩ := hC
  have h5 := hT.2.1
  have i5 : i < 5 := by omega
  have c0 : Dm.1 9 0 = nI (zT_n T) := cT.1
  have c5 : Dm.1 15 i = nI (za_ho T i) := cT.2.2.2.2.2.2.1 i i5
  have c6 : Dm.1 28 3 = nI (zX_up X) := cX.2.2.2.1
  have c7 : Dm.1 32 i = nI (zf_set (za_nr T X i)) := cQ.2.1 i i5
  have c8 : ∀ j, j < 5 → Dm.1 31 j = nI (A j 0 + 2048 * A j 1) := cX.2.2.1
  have hup : zX_up X < 16 := by
    have h1 := hX.2.2.2.2.1
    have : 2 ^ zT_m T ≤ 2 ^ 4 := Nat.pow_le_pow_right (by decide) hT.2.2.1
    omega
  have hho := za_ho_lt T i
  have hown : ∀ e, e < 4 → (za_ho T i &&& zX_up X).testBit e = za_ow T X i e := by
    intro e he
    rw [Nat.testBit_and]
    unfold za_ho za_ow
    rw [zf_set_tb]
    simp [he]
  have ho16 : (za_ho T i &&& zX_up X) < 16 := Nat.lt_of_le_of_lt Nat.and_le_left hho
  have hset0 : za_set (za_o0 T X i) = za_ho T i &&& zX_up X := by
    refine zs_ext (za_set_lt _) ho16 fun e he => ?_
    rw [za_set_tb he, hown e he]
    unfold za_o0
    by_cases hw : za_ow T X i e = true
    · rw [if_pos ⟨he, hw⟩, hw]
      exact decide_eq_true (by have := zc_k_ge e i 0; omega)
    · rw [if_neg (fun z => hw z.2)]
      simpa using hw
  -- the first loop
  obtain ⟨g1, ⟨f1, o1⟩, r1⟩ := zl_up (fun k (g' : Nat → Nat → Int32) => zv_m zt_X6_listen (zv_ev (dp + 2)) false 31 [some (.ref 27), some (.int (nI i)), some (.int (nI (za_ho T i &&& zX_up X))), some (.int (nI k)), none, none] [] zS0 (g', Dm.2)) 4 (fun k g' => (∀ x, x ≠ 36 → g' x = Dm.1 x) ∧ ∀ e, e < k → g' 36 e = nI (za_o0 T X i e)) (by
    intro k g' hk ⟨hf, ho⟩
    refine ⟨zv_w g' 36 k (nI (za_o0 T X i k)), ⟨fun x hx => (zw_cell _ _ _ hx).trans (hf x hx), fun e he => ?_⟩, ?_⟩
    · by_cases hek : e = k
      · subst hek; exact zw_same _ _ _ _
      · rw [zw_other _ _ _ hek]; exact ho e (by omega)
    · rw [zd_X6_listen_27_31, if_neg (zi_ge 4 4 rfl hk (by decide)), zi_in hk (by decide), nI_clamp (by omega), nI_1]
      by_cases hw : za_ow T X i k = true
      · rw [if_pos (by rw [zi_b1t (by omega) (by omega), hown k hk]; exact hw), show (0 : Int32) = nI 0 from rfl, ev_routeOf (dp := dp + 1) (g', Dm.2), zi_k hk (by omega) (by decide)]
        unfold za_o0
        rw [if_pos ⟨hk, hw⟩]
        rfl
      · rw [if_neg (by rw [zi_b1t (by omega) (by omega), hown k hk]; exact hw)]
        unfold za_o0
        rw [if_neg (fun z => hw z.2)]
        rfl) Dm.1 ⟨fun _ _ => rfl, fun e he => absurd he (Nat.not_lt_zero e)⟩
  -- the second loop
  obtain ⟨⟨g2, s2, v2⟩, ⟨f2, o2, e2⟩, r2⟩ := zl_up (σ := (Nat → Nat → Int32) × Nat × Option Value) (fun k p => zv_m zt_X6_listen (zv_ev (dp + 2)) false 72 [some (.ref 27), some (.int (nI i)), some (.int (nI (za_ho T i &&& zX_up X))), some (.int (nI p.2.1)), some (.int (nI k)), p.2.2] [] zS0 (p.1, Dm.2)) (zT_n T) (fun k p => (∀ x, x ≠ 36 → p.1 x = Dm.1 x) ∧ (∀ e, e < 4 → p.1 36 e = nI (za_of T X A i k e)) ∧ p.2.1 = za_set (za_of T X A i k)) (by
    rintro k ⟨g', s, v⟩ hk ⟨hf, ho, hs⟩
    dsimp only at hf ho hs
    subst hs
    obtain ⟨t, ht, htg, htb⟩ := cT.2.2.2.2.2.2.2 k i (by omega) i5
    have hR0 := hW.1 k 0
    have hR1 := hW.1 k 1
    have l0 := za_R_lt hR0
    have l1 := za_R_lt hR1
    have hst := zd_X6_listen_27_72 (zv_ev (dp + 2)) g' Dm.2 (nI i) (some (.int (nI (za_ho T i &&& zX_up X)))) (nI (za_set (za_of T X A i k))) (nI k) v
    rw [hf 9 (by decide), c0, if_neg (nI_ge hk (by omega)), if_neg (zi_ge 5 5 rfl (by omega) (by decide)), ev_toldBy (dp := dp + 1) (g', Dm.2) (by omega : k < 5) i5] at hst
    simp only [Option.bind_some] at hst
    rw [hf 11 (by decide), htg, nI_1, zi_in (by omega) (by decide), nI_clamp (by omega), cond_true] at hst
    have skip : za_ok T X i k (A k 0) = false → za_ok T X i k (A k 1) = false → za_of T X A i (k + 1) = za_of T X A i k := by
      intro n0 n1
      show za_h1 T X i k (A k 1) (za_h1 T X i k (A k 0) (za_of T X A i k)) = _
      rw [za_h1_no n0, za_h1_no n1]
    by_cases b1 : t = 0
    · rw [if_pos ((zi_0 (by omega)).mpr b1)] at hst
      have nk : ∀ c, za_R T k c → za_ok T X i k c = false := by
        intro c hc
        rcases hc with hc | hc
        · unfold za_ok; simp [hc]
        · have := htb (zc_f c) (by omega)
          rw [b1, Nat.zero_testBit] at this
          unfold za_ok
          rw [← this]
          simp
      exact ⟨(g', za_set (za_of T X A i k), _), ⟨hf, by rw [skip (nk _ hR0) (nk _ hR1)]; exact ho, by rw [skip (nk _ hR0) (nk _ hR1)]⟩, hst⟩
    rw [if_neg (fun z => b1 ((zi_0 (by omega)).mp z)), hf 31 (by decide), c8 k (by omega)] at hst
    by_cases b2 : A k 0 + 2048 * A k 1 = 0
    · rw [if_pos ((zi_0 (by omega)).mpr b2)] at hst
      have n0 : za_ok T X i k (A k 0) = false := by unfold za_ok; simp [show A k 0 = 0 by omega]
      have n1 : za_ok T X i k (A k 1) = false := by unfold za_ok; simp [show A k 1 = 0 by omega]
      exact ⟨(g', za_set (za_of T X A i k), _), ⟨hf, by rw [skip n0 n1]; exact ho, by rw [skip n0 n1]⟩, hst⟩
    obtain ⟨g1', p1, p2, p3⟩ := ev_take_27 (dp := dp) (Dm := (g', Dm.2)) (X := X) (i := i) (j := k) (c := A k 0) (off := za_of T X A i k) hT ((congrFun (hf 32 (by decide)) i).trans c7) i5 (by omega) ht htb hR0 ho (za_of_lt i5 k (by omega))
    dsimp only at p1 p3
    rw [if_neg (fun z => b2 ((zi_0 (by omega)).mp z)), zi_lo (by omega), show (A k 0 + 2048 * A k 1) % 2048 = A k 0 by omega, p3] at hst
    simp only [Option.bind_some] at hst
    obtain ⟨g2', p4, p5, p6⟩ := ev_take_27 (dp := dp) (Dm := (g1', Dm.2)) (X := X) (i := i) (j := k) (c := A k 1) (off := za_h1 T X i k (A k 0) (za_of T X A i k)) hT ((congrFun ((p1 32 (by decide)).trans (hf 32 (by decide))) i).trans c7) i5 (by omega) ht htb hR1 p2 (za_h1_lt (by omega) (za_of_lt i5 k (by omega)))
    dsimp only at p4 p6
    rw [p1 31 (by decide), hf 31 (by decide), c8 k (by omega), zi_hi (by omega), show (A k 0 + 2048 * A k 1) / 2048 = A k 1 by omega, p6] at hst
    simp only [Option.bind_some] at hst
    have w0 : (if za_ok T X i k (A k 0) = true then 2 ^ zc_e (A k 0) else 0) < 16 := by
      split
      · exact z2k (zc_e_lt _)
      · decide
    have w1 : (if za_ok T X i k (A k 1) = true then 2 ^ zc_e (A k 1) else 0) < 16 := by
      split
      · exact z2k (zc_e_lt _)
      · decide
    have ws := za_set_lt (za_of T X A i k)
    have ws2 : za_set (za_of T X A i k) ||| (if za_ok T X i k (A k 0) = true then 2 ^ zc_e (A k 0) else 0) < 16 := Nat.or_lt_two_pow (n := 4) ws w0
    rw [zi_or (by omega) (by omega), zi_or (by omega) (by omega), ← za_set_h1, ← za_set_h1] at hst
    exact ⟨(g2', _, _), ⟨fun x hx => (p4 x hx).trans ((p1 x hx).trans (hf x hx)), p5, rfl⟩, hst⟩) (g1, za_set (za_of T X A i 0), none) ⟨f1, o1, rfl⟩
  dsimp only at f2 o2 e2 r1 r2
  refine ⟨g2, f2, o2, zs_X6_listen_27 ((zd_X6_listen_27 _ Dm.1 Dm.2 _).trans ?_)⟩
  rw [if_neg (nI_pos (by omega)), if_pos (show nI i < 5 from (nI_ltI (b := 5) (by omega) (by decide)).mpr i5), zi_in i5 (by decide), nI_clamp (by omega), c5, c6, zi_and (by omega) (by omega), cond_true]
  refine r1.trans ?_
  rw [zd_X6_listen_27_31, if_pos (zi_le 4 4 rfl (by decide) (by decide))]
  have hset1 : za_set (za_of T X A i 0) = za_ho T i &&& zX_up X := hset0
  rw [hset1] at r2
  refine r2.trans ?_
  rw [zd_X6_listen_27_72, f2 9 (by decide), c0, if_pos (nI_le (Nat.le_refl _) (by omega)), e2]
  rfl
theorem zC_9_27 {g g' : Nat → Nat → Int32} {T : zT} {X : zX} {A : zA} (h : zC 27 g T X A) (hf : ∀ x, x ≠ 34 → x ≠ 35 → x ≠ 36 → x ≠ 37 → g' x = g x) (hQ : zC_Q 27 g' T X) : zC 27 g' T X A :=
  ⟨h.1, h.2.1, h.2.2.1, zC_T_of h.2.2.2.1 (fun c h3 h4 => hf c (by omega) (by omega) (by omega) (by omega)), zC_X_of h.2.2.2.2.1 (fun c h3 h4 => hf c (by omega) (by omega) (by omega) (by omega)), hQ⟩
theorem ev_decide_27 {dp : Nat} {Dm : zv_D} {T : zT} {X : zX} {A : zA} {i : Nat} (hC : zC 27 Dm.1 T X A) (hi : i < zT_n T) :
    ∃ g', (∀ x, x ≠ 34 → x ≠ 35 → x ≠ 36 → g' x = Dm.1 x) ∧ zC 27 g' T X A ∧ zv_ev (dp + 4) 58 [.ref 27, .int (nI i)] zS0 Dm = zo_i (nI (za_de T X A i 0 + 2048 * za_de T X A i 1)) (g', Dm.2) := by
  have hT := hC.1
  have h5 := hT.2.1
  have i5 : i < 5 := by omega
  have hW := hC.2.2.1
  have hex : zX_ex X < 32 := by
    have h1 := hC.2.1.2.2.2.2.2.1
    have : 2 ^ zT_n T ≤ 2 ^ 5 := Nat.pow_le_pow_right (by decide) h5
    omega
  have cex : Dm.1 28 4 = nI (zX_ex X) := hC.2.2.2.2.1.2.2.2.2.1
  obtain ⟨g1, f1, o1, r1⟩ := ev_listen_27 (dp := dp + 1 - 1) (Dm := Dm) hC hi
  have hC1 : zC 27 g1 T X A := zC_9_27 hC (fun x _ _ h9 _ => f1 x h9) (zC_Q_of hC.2.2.2.2.2 (fun x h1 h2 => f1 x (by omega)))
  have s16 := za_set_lt (za_hd T X A i)
  have hsm : ∀ e, e < 4 → (za_set (za_hd T X A i)).testBit e = true → e < zT_m T := by
    intro e he hb
    rw [za_set_tb he] at hb
    exact (za_Fn hT hW hi (X := X) (zT_n T) (Nat.le_refl _) e (of_decide_eq_true hb)).1
  obtain ⟨g2, f2, q2, r2⟩ := ev_pick_27 (dp := dp) (Dm := (g1, Dm.2)) (i := i) hC1 i5 s16 hsm
  dsimp only at f2 r2
  have hC2 : zC 27 g2 T X A := zC_9_27 hC1 (fun x h7 h8 _ _ => f2 x h7 h8) q2
  have hlt : ∀ e, za_hd T X A i e < 2048 := fun e => za_R_lt (za_hd_R hT hW hi e)
  have hst := zd_X6_decide_27 (zv_ev (dp + 3)) Dm.1 Dm.2 (nI i)
  replace r1 : zv_ev (dp + 3) 59 [.ref 27, .int (nI i)] zS0 (Dm.1, Dm.2) = zo_i (nI (za_set (za_hd T X A i))) (g1, Dm.2) := r1
  rw [r1] at hst
  simp only [Option.bind_some] at hst
  rw [r2] at hst
  simp only [Option.bind_some] at hst
  have fr : ∀ x, x ≠ 34 → x ≠ 35 → x ≠ 36 → g2 x = Dm.1 x := fun x h7 h8 h9 => (f2 x h7 h8).trans (f1 x h9)
  by_cases p4 : za_s1 T X A i < 4
  · have d0 : za_de T X A i 0 = za_hd T X A i (za_s1 T X A i) := by
      unfold za_de; rw [if_pos p4, if_pos rfl]
    have d1 : za_de T X A i 1 = if (zX_ex X).testBit i = true ∧ za_s2 T X A i < 4 then za_hd T X A i (za_s2 T X A i) else 0 := by
      unfold za_de; rw [if_pos p4, if_neg (by decide)]; simp only [true_and]
    have e1 : zf_pi (za_pk T X i (za_set (za_hd T X A i))) = nI (za_s1 T X A i) := zf_pi_in p4
    rw [e1, if_neg (nI_pos (by omega)), if_pos (show nI (za_s1 T X A i) < 4 from (nI_ltI (b := 4) (by omega) (by decide)).mpr p4), zi_in p4 (by decide), nI_clamp (by omega), cond_true, fr 28 (by decide) (by decide) (by decide), cex, f2 36 (by decide) (by decide), o1 _ p4, zi_rm s16 p4] at hst
    by_cases hx : (zX_ex X).testBit i = true
    · rw [if_pos (by rw [zi_b1t (by omega) (by omega)]; exact hx)] at hst
      have t16 : za_rm (za_set (za_hd T X A i)) (za_s1 T X A i) < 16 := za_rm_lt s16
      obtain ⟨g3, f3, q3, r3⟩ := ev_pick_27 (dp := dp) (Dm := (g2, Dm.2)) (i := i) (s := za_rm (za_set (za_hd T X A i)) (za_s1 T X A i)) hC2 i5 t16 (fun e he hb => by
        rw [za_rm_tb s16 p4 he, Bool.and_eq_true] at hb
        exact hsm e he hb.1)
      dsimp only at f3 r3
      have hC3 : zC 27 g3 T X A := zC_9_27 hC2 (fun x h7 h8 _ _ => f3 x h7 h8) q3
      rw [r3] at hst
      simp only [Option.bind_some] at hst
      refine ⟨g3, fun x h7 h8 h9 => (f3 x h7 h8).trans (fr x h7 h8 h9), hC3, (zs_X6_decide_27 (hst.trans ?_))⟩
      rw [d0, d1]
      by_cases p5 : za_s2 T X A i < 4
      · have e2 : zf_pi (za_pk T X i (za_rm (za_set (za_hd T X A i)) (za_s1 T X A i))) = nI (za_s2 T X A i) := zf_pi_in p5
        rw [e2, if_neg (nI_pos (by omega)), if_neg (zi_ge 4 4 rfl p5 (by decide)), zi_in p5 (by decide), nI_clamp (by omega), cond_true, f3 36 (by decide) (by decide), f2 36 (by decide) (by decide), o1 _ p5, zi_up (hlt _), zi_sum (hlt _) (hlt _), if_pos ⟨hx, p5⟩]
      · have e2 : zf_pi (za_pk T X i (za_rm (za_set (za_hd T X A i)) (za_s1 T X A i))) = -1 := by
          have : za_pk T X i (za_rm (za_set (za_hd T X A i)) (za_s1 T X A i)) = 4 := by
            have h1 := za_pk_le T X i (za_rm (za_set (za_hd T X A i)) (za_s1 T X A i))
            have h2 : ¬ za_pk T X i (za_rm (za_set (za_hd T X A i)) (za_s1 T X A i)) < 4 := p5
            omega
          rw [this]; rfl
        rw [e2, if_pos (by decide), if_neg (fun z => p5 z.2), Int32.or_zero, Nat.mul_zero, Nat.add_zero]
    · rw [if_neg (by rw [zi_b1t (by omega) (by omega)]; exact hx)] at hst
      refine ⟨g2, fr, hC2, (zs_X6_decide_27 (hst.trans ?_))⟩
      rw [d0, d1, if_neg (fun z => hx z.1), Nat.mul_zero, Nat.add_zero]
  · have e1 : zf_pi (za_pk T X i (za_set (za_hd T X A i))) = -1 := by
      have : za_pk T X i (za_set (za_hd T X A i)) = 4 := by
        have h1 := za_pk_le T X i (za_set (za_hd T X A i))
        have h2 : ¬ za_pk T X i (za_set (za_hd T X A i)) < 4 := p4
        omega
      rw [this]; rfl
    rw [e1, if_pos (by decide)] at hst
    refine ⟨g2, fr, hC2, (zs_X6_decide_27 (hst.trans ?_))⟩
    unfold za_de
    rw [if_neg p4, if_neg p4]
    rfl
