/-! ===== the plan, out of a scan ===== -/
def zt_cl (se : Nat → Nat) (j : Nat) : Nat → Nat
  | 0 => 0
  | k + 1 => zt_cl se j k ||| (if se (5 * j + k) = 2 then 2 ^ k else 0)
theorem zt_cl_lt (se : Nat → Nat) (j : Nat) : ∀ k, k ≤ 5 → zt_cl se j k < 32 := by
  intro k
  induction k with
  | zero => intro _; exact (by decide : (0 : Nat) < 32)
  | succ k ih =>
    intro hk
    refine Nat.or_lt_two_pow (n := 5) (ih (by omega)) ?_
    split
    · exact zp_lt (by omega)
    · decide
theorem zt_cl_tb (se : Nat → Nat) (j f : Nat) : ∀ k, (zt_cl se j k).testBit f = (decide (f < k) && decide (se (5 * j + f) = 2)) := by
  intro k
  induction k with
  | zero => simp [zt_cl]
  | succ k ih =>
    show (zt_cl se j k ||| (if se (5 * j + k) = 2 then 2 ^ k else 0)).testBit f = _
    rw [Nat.testBit_or, ih]
    by_cases hfk : f = k
    · subst hfk
      by_cases q : se (5 * j + f) = 2
      · rw [if_pos q, Nat.testBit_two_pow_self]; simp [q]
      · rw [if_neg q, Nat.zero_testBit]; simp [q]
    · have e : (if se (5 * j + k) = 2 then 2 ^ k else 0).testBit f = false := by
        split
        · rw [Nat.testBit_two_pow]; simp; omega
        · exact Nat.zero_testBit f
      rw [e, Bool.or_false]
      have : decide (f < k + 1) = decide (f < k) := decide_eq_decide.mpr (by omega)
      rw [this]
def zt_rm (a o : Nat) : Nat := a &&& (31 - 2 ^ o)
theorem zt_rm_i : ∀ a, a < 32 → ∀ o, o < 5 → nI a &&& (((1 : Int32) <<< (nI o &&& 31)) ^^^ (-1)) = nI (zt_rm a o) := by decide +kernel
theorem zt_rm_tb : ∀ a, a < 32 → ∀ o, o < 5 → ∀ f, f < 5 → (zt_rm a o).testBit f = (a.testBit f && decide (f ≠ o)) := by decide +kernel
theorem zt_rm_lt {a o : Nat} (ha : a < 32) : zt_rm a o < 32 := Nat.lt_of_le_of_lt Nat.and_le_left ha
theorem z31_tb : ∀ f, f < 5 → (31 : Nat).testBit f = true := by decide
theorem ev_readTold {dp : Nat} {g : Nat → Nat → Int32} {h : Nat → Nat → Int64} {T : zT} {j : Nat} (hse : ∀ k, k < 25 → g 10 k = nI (zT_se T k)) (h3 : ∀ k, zT_se T k ≤ 3) (hj : j < 5) : ∃ g', (∀ x, x ≠ 11 → g' x = g x) ∧ (∀ q, q < 5 * j ∨ 5 * j + 5 ≤ q → g' 11 q = g 11 q) ∧ (∀ i, i < 5 → ∃ t, t < 32 ∧ g' 11 (5 * j + i) = nI t ∧ ∀ f, f < 5 → t.testBit f = za_te T j i f) ∧ zv_ev (dp + 2) 21 [.ref 9, .int (nI j)] zS0 (g, h) = zo_v (g', h) := by
  have hst := zd_X3_readTold (zv_ev (dp + 1)) g h (nI j)
  obtain ⟨-, -, r1⟩ := zl_up (σ := Unit) (fun k _ => zv_m zt_X3_readTold (zv_ev (dp + 1)) false 4 [some (.ref 9), some (.int (nI j)), some (.int (nI (zt_cl (zT_se T) j k))), some (.int (nI k)), none, none] [] zS0 (g, h)) 5 (fun _ _ => True) (by
    intro k _ hk _
    refine ⟨(), trivial, ?_⟩
    have cl := zt_cl_lt (zT_se T) j k (by omega)
    have := h3 (5 * j + k)
    have e1 := zd_X3_readTold_4 (zv_ev (dp + 1)) g h (nI j) (nI (zt_cl (zT_se T) j k)) (nI k) none none
    rw [if_neg (zi_ge 5 5 rfl hk (by decide)), ev_sessionOf (dp := dp) (g, h) hj hk, nI_1] at e1
    simp only [Option.bind_some] at e1
    rw [hse _ (by omega)] at e1
    show _ = zv_m zt_X3_readTold (zv_ev (dp + 1)) false 4 [some (.ref 9), some (.int (nI j)), some (.int (nI (zt_cl (zT_se T) j k ||| (if zT_se T (5 * j + k) = 2 then 2 ^ k else 0)))), some (.int (nI (k + 1))), none, none] [] zS0 (g, h)
    by_cases q : zT_se T (5 * j + k) = 2
    · rw [if_pos ((zi_eqc 2 2 rfl (by omega) (by decide)).mpr q), zi_sh hk, zi_or (by omega) (by have := zp_lt hk; omega)] at e1
      rw [if_pos q]; exact e1
    · rw [if_neg (fun z => q ((zi_eqc 2 2 rfl (by omega) (by decide)).mp z)), show (0 : Int32) = nI 0 from rfl, zi_or (by omega) (by decide)] at e1
      rw [if_neg q]; exact e1) () trivial
  have e2 := zd_X3_readTold_4 (zv_ev (dp + 1)) g h (nI j) (nI (zt_cl (zT_se T) j 5)) (nI 5) none none
  rw [if_pos (by decide)] at e2
  have cl := zt_cl_lt (zT_se T) j 5 (by decide)
  have pj := zp_lt hj
  obtain ⟨⟨g2, u4, u5⟩, ⟨f2, o2, n2⟩, r2⟩ := zl_up (σ := (Nat → Nat → Int32) × Option Value × Option Value) (fun k s => zv_m zt_X3_readTold (zv_ev (dp + 1)) false 37 [some (.ref 9), some (.int (nI j)), some (.int (nI (zt_cl (zT_se T) j 5))), some (.int (nI k)), s.2.1, s.2.2] [] zS0 (s.1, h)) 5 (fun k s => (∀ x, x ≠ 11 → s.1 x = g x) ∧ (∀ q, q < 5 * j ∨ 5 * j + 5 ≤ q → s.1 11 q = g 11 q) ∧ ∀ i, i < k → ∃ t, t < 32 ∧ s.1 11 (5 * j + i) = nI t ∧ ∀ f, f < 5 → t.testBit f = za_te T j i f) (by
    rintro k ⟨s, u4, u5⟩ hk ⟨hf, ho, hn⟩
    dsimp only at hf ho hn
    have hs3 := h3 (5 * j + k)
    have e1 := zd_X3_readTold_37 (zv_ev (dp + 1)) s h (nI j) (nI (zt_cl (zT_se T) j 5)) (nI k) u4 u5
    rw [if_neg (zi_ge 5 5 rfl hk (by decide)), ev_sessionOf (dp := dp) (s, h) hj hk, nI_1, zx_pair hj hk] at e1
    simp only [Option.bind_some] at e1
    rw [hf 10 (by decide), hse _ (by omega), zi_in (n := 25) (by omega) (by decide), nI_clamp (by omega), zi_sh hj, zi_or (by omega) (by omega), zt_rm_i _ (Nat.or_lt_two_pow (n := 5) cl pj) k hk, show (31 : Int32) = nI 31 from rfl] at e1
    have e31 : nI 31 &&& (((1 : Int32) <<< (nI k &&& nI 31)) ^^^ (-1)) = nI (zt_rm 31 k) := zt_rm_i 31 (by decide) k hk
    rw [e31] at e1
    simp only [cond_true] at e1
    have put : ∀ t, t < 32 → (∀ f, f < 5 → t.testBit f = za_te T j k f) → (∀ x, x ≠ 11 → zv_w s 11 (5 * j + k) (nI t) x = g x) ∧ (∀ q, q < 5 * j ∨ 5 * j + 5 ≤ q → zv_w s 11 (5 * j + k) (nI t) 11 q = g 11 q) ∧ ∀ i, i < k + 1 → ∃ t', t' < 32 ∧ zv_w s 11 (5 * j + k) (nI t) 11 (5 * j + i) = nI t' ∧ ∀ f, f < 5 → t'.testBit f = za_te T j i f := by
      intro t ht htb
      refine ⟨fun x hx => (zw_cell _ _ _ hx).trans (hf x hx), fun q hq => (zw_other _ _ _ (by omega)).trans (ho q hq), fun i hi => ?_⟩
      by_cases hik : i = k
      · subst hik; exact ⟨t, ht, zw_same _ _ _ _, htb⟩
      · obtain ⟨t', a1, a2, a3⟩ := hn i (by omega)
        exact ⟨t', a1, (zw_other _ _ _ (by omega)).trans a2, a3⟩
    by_cases q2 : zT_se T (5 * j + k) = 2
    · have p2 := put (zt_rm 31 k) (zt_rm_lt (by decide)) (fun f hf => by
        rw [zt_rm_tb 31 (by decide) k hk f hf, z31_tb f hf]
        simp [za_te, q2])
      rw [if_pos ((zi_eqc 2 2 rfl (by omega) (by decide)).mpr q2), if_neg (fun z => by have := (zi_0 (by omega)).mp z; omega)] at e1
      exact ⟨(_, _, _), p2, e1⟩
    · rw [if_neg (fun z => q2 ((zi_eqc 2 2 rfl (by omega) (by decide)).mp z))] at e1
      by_cases q0 : zT_se T (5 * j + k) = 0
      · have p2 := put 0 (by decide) (fun f hf => by
          rw [Nat.zero_testBit]
          simp [za_te, q0])
        rw [if_pos ((zi_0 (by omega)).mpr q0)] at e1
        exact ⟨(_, _, _), p2, e1⟩
      · have p2 := put (zt_rm (zt_cl (zT_se T) j 5 ||| 2 ^ j) k) (zt_rm_lt (Nat.or_lt_two_pow (n := 5) cl pj)) (fun f hf => by
          rw [zt_rm_tb _ (Nat.or_lt_two_pow (n := 5) cl pj) k hk f hf, Nat.testBit_or, zt_cl_tb, Nat.testBit_two_pow]
          unfold za_te
          have hjf : decide (j = f) = decide (f = j) := decide_eq_decide.mpr ⟨fun z => z.symm, fun z => z.symm⟩
          rw [hjf]
          simp only [hf, decide_true, Bool.true_and, ne_eq, q0, not_false_eq_true, q2, decide_false, Bool.or_false]
          cases decide (zT_se T (5 * j + f) = 2) <;> cases decide (f = j) <;> cases decide (¬ f = k) <;> rfl)
        rw [if_neg (fun z => q0 ((zi_0 (by omega)).mp z))] at e1
        exact ⟨(_, _, _), p2, e1⟩) (g, none, none) ⟨fun _ _ => rfl, fun _ _ => rfl, fun i hi => absurd hi (Nat.not_lt_zero i)⟩
  dsimp only at f2 o2 n2 r2
  refine ⟨g2, f2, o2, n2, zs_X3_readTold (hst.trans (r1.trans (e2.trans (r2.trans ?_))))⟩
  rw [zd_X3_readTold_37, if_pos (by decide)]
def zk_T (S : zK) : zT := (S.1.1, S.1.2.1, S.2.2.1, S.2.2.2.1, S.2.2.2.2.1, S.2.2.2.2.2.1)
def zk_X (S : zK) : zX := (S.2.1, S.2.2.2.2.2.2, 2 ^ S.1.2.1 - 1, 0, 0)
theorem zk_T_ok {S : zK} (h : zK_ok S) : zT_ok (zk_T S) := ⟨h.1, h.2.1, h.2.2.1, h.2.2.2.2.2.2.1, h.2.2.2.2.2.2.2.1, h.2.2.2.2.2.2.2.2.1, h.2.2.2.2.2.2.2.2.2.1, h.2.2.2.2.2.2.2.2.2.2.1, h.2.2.2.2.2.2.2.2.2.2.2.1, h.2.2.2.2.2.2.2.2.2.2.2.2.1⟩
theorem zk_X_ok {S : zK} (h : zK_ok S) : zX_ok (zk_T S) (zk_X S) := ⟨h.2.2.2.1, h.2.2.2.2.1, h.2.2.2.2.2.1, h.2.2.2.2.2.2.2.2.2.2.2.2.2, by
  show 2 ^ S.1.2.1 - 1 < 2 ^ S.1.2.1
  have := Nat.two_pow_pos S.1.2.1
  omega, Nat.two_pow_pos _, Nat.zero_le _⟩
theorem ev_planRead {dp : Nat} {g : Nat → Nat → Int32} {h : Nat → Nat → Int64} {tx : Nat → Nat} {L : Nat} {S : zK} (hK : zKC g tx L S) (ok : zK_ok S) : ∃ g', (∀ x, x < 9 ∨ 15 < x → g' x = g x) ∧ zC_T g' (zk_T S) ∧ zv_ev (dp + 3) 20 [.ref 9, .ref 1] zS0 (g, h) = zo_v (g', h) := by
  have hT := zk_T_ok ok
  have h4 := ok.2.2.1
  have hst := zd_X3_read (zv_ev (dp + 2)) g h
  obtain ⟨b1, b2, b3, b4, b5, b6, b7, b8, b9⟩ := hK
  rw [zw_cell _ _ _ (by decide), b3, b4] at hst
  generalize hs0 : zv_cp (zv_cp (zv_cp (zv_cp (zv_w (zv_w g 9 0 (nI S.1.1)) 9 1 (nI S.1.2.1)) 4 10 0 0 25) 5 12 0 0 4) 6 13 0 0 4) 7 14 0 0 4 = s0 at hst
  have c0 : ∀ x, x ≠ 9 → x ≠ 10 → x ≠ 12 → x ≠ 13 → x ≠ 14 → s0 x = g x := fun x a b c d e => by
    rw [← hs0, zcp_cell _ _ e, zcp_cell _ _ d, zcp_cell _ _ c, zcp_cell _ _ b, zw_cell _ _ _ a, zw_cell _ _ _ a]
  have c9 : s0 9 = zv_w (zv_w g 9 0 (nI S.1.1)) 9 1 (nI S.1.2.1) 9 := by
    rw [← hs0, zcp_cell _ _ (by decide), zcp_cell _ _ (by decide), zcp_cell _ _ (by decide), zcp_cell _ _ (by decide)]
  have c10 : ∀ k, k < 25 → s0 10 k = nI (S.2.2.1 k) := fun k hk => by
    rw [← hs0, zcp_cell _ _ (by decide), zcp_cell _ _ (by decide), zcp_cell _ _ (by decide), zcp_in _ _ _ hk, zw_cell _ _ _ (by decide), zw_cell _ _ _ (by decide)]
    exact b8 k hk
  have c12 : ∀ e, e < 4 → s0 12 e = nI (S.2.2.2.1 e) := fun e he => by
    rw [← hs0, zcp_cell _ _ (by decide), zcp_cell _ _ (by decide), zcp_in _ _ _ he, zcp_cell _ _ (by decide), zw_cell _ _ _ (by decide), zw_cell _ _ _ (by decide)]
    exact (b9 e he).1
  have c13 : ∀ e, e < 4 → s0 13 e = nI (S.2.2.2.2.1 e) := fun e he => by
    rw [← hs0, zcp_cell _ _ (by decide), zcp_in _ _ _ he, zcp_cell _ _ (by decide), zcp_cell _ _ (by decide), zw_cell _ _ _ (by decide), zw_cell _ _ _ (by decide)]
    exact (b9 e he).2.1
  have c14 : ∀ e, e < 4 → s0 14 e = nI (S.2.2.2.2.2.1 e) := fun e he => by
    rw [← hs0, zcp_in _ _ _ he, zcp_cell _ _ (by decide), zcp_cell _ _ (by decide), zcp_cell _ _ (by decide), zw_cell _ _ _ (by decide), zw_cell _ _ _ (by decide)]
    exact (b9 e he).2.2.1
  have m9 : s0 9 1 = nI S.1.2.1 := by rw [c9, zw_same]
  obtain ⟨⟨g1, u3⟩, ⟨f1, t1, o1⟩, r1⟩ := zl_up (σ := (Nat → Nat → Int32) × Option Value) (fun j s => zv_m zt_X3_read (zv_ev (dp + 2)) false 75 [some (.ref 9), some (.ref 1), some (.int (nI j)), s.2] [] zS0 (s.1, h)) 5 (fun j s => (∀ x, x ≠ 11 → x ≠ 15 → s.1 x = s0 x) ∧ (∀ a i, a < j → i < 5 → ∃ t, t < 32 ∧ s.1 11 (5 * a + i) = nI t ∧ ∀ f, f < 5 → t.testBit f = za_te (zk_T S) a i f) ∧ ∀ a, a < j → s.1 15 a = nI (za_ho (zk_T S) a)) (by
    rintro j ⟨s, u⟩ hj ⟨hf, ht, ho⟩
    dsimp only at hf ht ho
    have e1 := zd_X3_read_75 (zv_ev (dp + 2)) s h (some (.ref 1)) (nI j) u
    obtain ⟨s1, f2, o2, n2, r2⟩ := ev_readTold (dp := dp) (g := s) (h := h) (T := zk_T S) (j := j) (fun k hk => (congrFun (hf 10 (by decide) (by decide)) k).trans (c10 k hk)) hT.2.2.2.1 hj
    rw [if_neg (zi_ge 5 5 rfl hj (by decide)), r2, zi_in hj (by decide), nI_clamp (by omega)] at e1
    simp only [Option.bind_some, cond_true] at e1
    obtain ⟨s2, ⟨f3, o3, n3⟩, r3⟩ := zl_up (fun e (w : Nat → Nat → Int32) => zv_m zt_X3_read (zv_ev (dp + 2)) false 94 [some (.ref 9), some (.ref 1), some (.int (nI j)), some (.int (nI e))] [] zS0 (w, h)) S.1.2.1 (fun e w => (∀ x, x ≠ 15 → w x = s1 x) ∧ (∀ q, q ≠ j → w 15 q = s1 15 q) ∧ w 15 j = nI (zf_set fun f => decide (f < e) && za_at (zk_T S) j f)) (by
      rintro e w he ⟨wf, wo, wn⟩
      have e3 := zd_X3_read_94 (zv_ev (dp + 2)) w h (some (.ref 1)) (nI j) (nI e)
      have fl := zf_set_lt fun f => decide (f < e) && za_at (zk_T S) j f
      have w9 : w 9 1 = nI S.1.2.1 := (congrFun ((wf 9 (by decide)).trans ((f2 9 (by decide)).trans (hf 9 (by decide) (by decide)))) 1).trans m9
      have w12 : w 12 e = nI (S.2.2.2.1 e) := (congrFun ((wf 12 (by decide)).trans ((f2 12 (by decide)).trans (hf 12 (by decide) (by decide)))) e).trans (c12 e (by omega))
      have hpl := ok.2.2.2.2.2.2.2.2.2.1 e
      rw [w9, if_neg (nI_ge he (by omega)), if_neg (zi_ge 4 4 rfl (by omega) (by decide)), zi_in hj (by decide), zi_in (n := 4) (by omega) (by decide), nI_clamp (by omega), nI_clamp (by omega), w12, wn, nI_1] at e3
      simp only [cond_true] at e3
      have hs := zf_pre_s (p := za_at (zk_T S) j) (k := e) (by omega)
      have put : ∀ v : Int32, v = nI (zf_set fun f => decide (f < e + 1) && za_at (zk_T S) j f) → (∀ x, x ≠ 15 → zv_w w 15 j v x = s1 x) ∧ (∀ q, q ≠ j → zv_w w 15 j v 15 q = s1 15 q) ∧ zv_w w 15 j v 15 j = nI (zf_set fun f => decide (f < e + 1) && za_at (zk_T S) j f) := fun v hv => ⟨fun x hx => (zw_cell _ _ _ hx).trans (wf x hx), fun q hq => (zw_other _ _ _ hq).trans (wo q hq), (zw_same _ _ _ _).trans hv⟩
      by_cases q : S.2.2.2.1 e = j
      · rw [if_pos (by rw [q]), zi_sh (by omega), zi_or (by omega) (by have := z2k (show e < 4 by omega); omega)] at e3
        refine ⟨_, put _ ?_, e3⟩
        have ha : za_at (zk_T S) j e = true := by
          unfold za_at
          simp only [Bool.and_eq_true, decide_eq_true_eq]
          exact ⟨he, q⟩
        rw [hs, if_pos ha]
      · rw [if_neg (fun z => q ((nI_eq (by omega) (by omega)).mp z)), show (0 : Int32) = nI 0 from rfl, zi_or (by omega) (by decide)] at e3
        refine ⟨_, put _ ?_, e3⟩
        have ha : ¬ za_at (zk_T S) j e = true := by
          unfold za_at
          simp only [Bool.and_eq_true, decide_eq_true_eq]
          exact fun z => q z.2
        rw [hs, if_neg ha]) (zv_w s1 15 j 0) ⟨fun x hx => zw_cell _ _ _ hx, fun q hq => zw_other _ _ _ hq, (zw_same _ _ _ _).trans (by rw [zf_pre_0]; rfl)⟩
    have e4 := zd_X3_read_94 (zv_ev (dp + 2)) s2 h (some (.ref 1)) (nI j) (nI S.1.2.1)
    have w9 : s2 9 1 = nI S.1.2.1 := (congrFun ((f3 9 (by decide)).trans ((f2 9 (by decide)).trans (hf 9 (by decide) (by decide)))) 1).trans m9
    rw [w9, if_pos (nI_le (Nat.le_refl _) (by omega)), nI_1] at e4
    refine ⟨(s2, _), ⟨fun x h1 h2 => (f3 x h2).trans ((f2 x h1).trans (hf x h1 h2)), fun a i ha hi => ?_, fun a ha => ?_⟩, e1.trans (r3.trans e4)⟩
    · dsimp only
      rw [f3 11 (by decide)]
      by_cases haj : a = j
      · subst haj; exact n2 i hi
      · obtain ⟨t, a1, a2, a3⟩ := ht a i (by omega) hi
        exact ⟨t, a1, (o2 _ (by omega)).trans a2, a3⟩
    · dsimp only
      by_cases haj : a = j
      · subst haj
        rw [n3]
        refine congrArg nI ?_
        unfold za_ho
        refine zs_ext (zf_set_lt _) (zf_set_lt _) fun f hf4 => ?_
        rw [zf_set_tb, zf_set_tb]
        have hfm : (decide (f < S.1.2.1) && za_at (zk_T S) a f) = za_at (zk_T S) a f := by
          unfold za_at
          show (decide (f < S.1.2.1) && (decide (f < S.1.2.1) && _)) = (decide (f < S.1.2.1) && _)
          cases decide (f < S.1.2.1) <;> rfl
        rw [hfm]
      · rw [o3 a haj, f2 15 (by decide)]; exact ho a (by omega)) (s0, none) ⟨fun _ _ _ => rfl, fun a i ha => absurd ha (Nat.not_lt_zero a), fun a ha => absurd ha (Nat.not_lt_zero a)⟩
  dsimp only at f1 t1 o1 r1
  refine ⟨g1, fun x hx => (f1 x (by omega) (by omega)).trans (c0 x (by omega) (by omega) (by omega) (by omega) (by omega)), ⟨?_, ?_, fun k hk => ?_, fun e he => ?_, fun e he => ?_, fun e he => ?_, o1, t1⟩, zs_X3_read (hst.trans (r1.trans ?_))⟩
  · rw [f1 9 (by decide) (by decide), c9, zw_other _ _ _ (by decide), zw_same]; rfl
  · rw [f1 9 (by decide) (by decide)]; exact m9
  · rw [f1 10 (by decide) (by decide)]; exact c10 k hk
  · rw [f1 12 (by decide) (by decide)]; exact c12 e he
  · rw [f1 13 (by decide) (by decide)]; exact c13 e he
  · rw [f1 14 (by decide) (by decide)]; exact c14 e he
  · rw [zd_X3_read_75, if_pos (by decide)]
