/-! ===== the memory of the first side ===== -/
def zC_T (g : Nat → Nat → Int32) (T : zT) : Prop := g 9 0 = nI (zT_n T) ∧ g 9 1 = nI (zT_m T) ∧ (∀ k, k < 25 → g 10 k = nI (zT_se T k)) ∧ (∀ e, e < 4 → g 12 e = nI (zT_pl T e)) ∧ (∀ e, e < 4 → g 13 e = nI (zT_ne T e)) ∧ (∀ e, e < 4 → g 14 e = nI (zT_pa T e)) ∧ (∀ i, i < 5 → g 15 i = nI (za_ho T i)) ∧ (∀ j i, j < 5 → i < 5 → ∃ t, t < 32 ∧ g 11 (5 * j + i) = nI t ∧ ∀ f, f < 5 → t.testBit f = za_te T j i f)
def zC_X (c : Nat) (g : Nat → Nat → Int32) (X : zX) (A : zA) : Prop := (∀ k, k < 25 → g (c + 1) k = nI (zX_co X k)) ∧ (∀ e, e < 4 → g (c + 2) e = nI (zX_we X e)) ∧ (∀ j, j < 5 → g (c + 3) j = nI (A j 0 + 2048 * A j 1)) ∧ g c 3 = nI (zX_up X) ∧ g c 4 = nI (zX_ex X) ∧ g c 5 = nI (zX_mo X)
def zC_Q (q : Nat) (g : Nat → Nat → Int32) (T : zT) (X : zX) : Prop := (∀ i j, i < 5 → j < 5 → g (q + 6) (5 * i + j) = nI (za_di (zX_co X) i j)) ∧ (∀ i, i < 5 → g (q + 5) i = nI (zf_set (za_nr T X i))) ∧ (∀ i s, i < 5 → s < 16 → (∀ e, e < 4 → s.testBit e = true → e < zT_m T) → g (q + 7) (16 * i + s) = -2 ∨ g (q + 7) (16 * i + s) = zf_pi (za_pk T X i s))
/-- all of a simulator -/
def zC (q : Nat) (g : Nat → Nat → Int32) (T : zT) (X : zX) (A : zA) : Prop := zT_ok T ∧ zX_ok T X ∧ za_W T A ∧ zC_T g T ∧ zC_X (q + 1) g X A ∧ zC_Q q g T X
/-- nothing changes but between two cells -/
def zF (a b : Nat) (g g' : Nat → Nat → Int32) : Prop := ∀ c, c < a ∨ b < c → g' c = g c
theorem zF_refl (a b : Nat) (g : Nat → Nat → Int32) : zF a b g g := fun _ _ => rfl
theorem zF_trans {a b : Nat} {g1 g2 g3 : Nat → Nat → Int32} (h1 : zF a b g1 g2) (h2 : zF a b g2 g3) : zF a b g1 g3 := fun c h => (h2 c h).trans (h1 c h)
theorem zF_mono {a b a' b' : Nat} {g1 g2 : Nat → Nat → Int32} (h : zF a b g1 g2) (ha : a' ≤ a) (hb : b ≤ b') : zF a' b' g1 g2 := fun c hc => h c (by omega)
theorem zF_w {a b : Nat} (g : Nat → Nat → Int32) {c : Nat} (i : Nat) (v : Int32) (h1 : a ≤ c) (h2 : c ≤ b) : zF a b g (zv_w g c i v) := fun x hx => zw_cell g i v (by omega)
theorem zC_T_of {g g' : Nat → Nat → Int32} {T : zT} (h : zC_T g T) (hg : ∀ c, 9 ≤ c → c ≤ 15 → g' c = g c) : zC_T g' T := by
  unfold zC_T at h ⊢
  rw [hg 9 (by decide) (by decide), hg 10 (by decide) (by decide), hg 11 (by decide) (by decide), hg 12 (by decide) (by decide), hg 13 (by decide) (by decide), hg 14 (by decide) (by decide), hg 15 (by decide) (by decide)]
  exact h
theorem zC_X_of {c : Nat} {g g' : Nat → Nat → Int32} {X : zX} {A : zA} (h : zC_X c g X A) (hg : ∀ x, c ≤ x → x ≤ c + 3 → g' x = g x) : zC_X c g' X A := by
  unfold zC_X at h ⊢
  rw [hg c (by omega) (by omega), hg (c + 1) (by omega) (by omega), hg (c + 2) (by omega) (by omega), hg (c + 3) (by omega) (by omega)]
  exact h
theorem zC_Q_of {q : Nat} {g g' : Nat → Nat → Int32} {T : zT} {X : zX} (h : zC_Q q g T X) (hg : ∀ x, q + 5 ≤ x → x ≤ q + 7 → g' x = g x) : zC_Q q g' T X := by
  unfold zC_Q at h ⊢
  rw [hg (q + 5) (by omega) (by omega), hg (q + 6) (by omega) (by omega), hg (q + 7) (by omega) (by omega)]
  exact h
theorem zC_F {q a b : Nat} {g g' : Nat → Nat → Int32} {T : zT} {X : zX} {A : zA} (h : zC q g T X A) (hF : zF a b g g') (h1 : b < 9 ∨ 15 < a) (h2 : b < q + 1 ∨ q + 7 < a) : zC q g' T X A :=
  ⟨h.1, h.2.1, h.2.2.1, zC_T_of h.2.2.2.1 (fun c h3 h4 => hF c (by omega)), zC_X_of h.2.2.2.2.1 (fun c h3 h4 => hF c (by omega)), zC_Q_of h.2.2.2.2.2 (fun c h3 h4 => hF c (by omega))⟩
theorem za_ho_lt (T : zT) (i : Nat) : za_ho T i < 16 := zf_set_lt _
theorem zx_16 {i s : Nat} : (nI i * 16) + nI s = nI (16 * i + s) := by
  rw [show (16 : Int32) = nI 16 from rfl, pk_mul, nI_add, Nat.mul_comm]
theorem zf_pi_ne {p : Nat} (h : p ≤ 4) : zf_pi p ≠ -2 := by
  have key : ∀ p, p ≤ 4 → zf_pi p ≠ -2 := by decide
  exact key p h
theorem zf_pi_in {p : Nat} (h : p < 4) : zf_pi p = nI p := by
  unfold zf_pi; rw [if_neg (by omega)]
theorem zf_pi_4 : zf_pi 4 = -1 := rfl
theorem zn_3 {k : Nat} (h : k ≤ 2) : nI k = 0 ∨ nI k = 1 ∨ nI k = 2 := by
  have : k = 0 ∨ k = 1 ∨ k = 2 := by omega
  rcases this with rfl | rfl | rfl
  · exact Or.inl rfl
  · exact Or.inr (Or.inl rfl)
  · exact Or.inr (Or.inr rfl)
theorem ev_pick_16 {dp : Nat} {Dm : zv_D} {T : zT} {X : zX} {A : zA} {i s : Nat} (hC : zC 16 Dm.1 T X A) (hi : i < 5) (hs : s < 16) (hsm : ∀ e, e < 4 → s.testBit e = true → e < zT_m T) :
    ∃ g', (∀ c, c ≠ 23 → c ≠ 24 → g' c = Dm.1 c) ∧ zC_Q 16 g' T X ∧ zv_ev (dp + 3) 61 [.ref 16, .int (nI i), .int (nI s)] zS0 Dm = zo_i (zf_pi (za_pk T X i s)) (g', Dm.2) := by
  obtain ⟨hT, hX, hW, cT, cX, cQ⟩ := hC
  have c1 : Dm.1 9 1 = nI (zT_m T) := cT.2.1
  have c2 : ∀ e, e < 4 → Dm.1 12 e = nI (zT_pl T e) := cT.2.2.2.1
  have c3 : ∀ e, e < 4 → Dm.1 13 e = nI (zT_ne T e) := cT.2.2.2.2.1
  have c4 : ∀ e, e < 4 → Dm.1 14 e = nI (zT_pa T e) := cT.2.2.2.2.2.1
  have c5 : Dm.1 15 i = nI (za_ho T i) := cT.2.2.2.2.2.2.1 i hi
  have c6 : ∀ e, e < 4 → Dm.1 19 e = nI (zX_we X e) := cX.2.1
  have c7 : Dm.1 17 5 = nI (zX_mo X) := cX.2.2.2.2.2
  have c8 : ∀ j, j < 5 → Dm.1 22 (5 * i + j) = nI (za_di (zX_co X) i j) := fun j hj => cQ.1 i j hi hj
  have c9 : Dm.1 23 (16 * i + s) = -2 ∨ Dm.1 23 (16 * i + s) = zf_pi (za_pk T X i s) := cQ.2.2 i s hi hs hsm
  have hmo : zX_mo X ≤ 2 := hX.2.2.2.2.2.2
  have hpl : ∀ e, zT_pl T e < 5 := hT.2.2.2.2.2.2.1
  have hle := za_pk_le T X i s
  suffices hh : ∃ g', (∀ c, c ≠ 23 → c ≠ 24 → g' c = Dm.1 c) ∧ zC_Q 16 g' T X ∧ zv_m zt_X6_pick (zv_ev (dp + 2)) false 0 [some (.ref 16), some (.int (nI i)), some (.int (nI s)), none] [] zS0 (Dm.1, Dm.2) = zv_ri (zf_pi (za_pk T X i s)) zS0 (g', Dm.2) from hh.imp fun g' hg => ⟨hg.1, hg.2.1, zs_X6_pick_16 hg.2.2⟩
  rw [zd_X6_pick_16, if_neg (nI_pos (by omega)), if_neg (zi_ge 5 5 rfl hi (by decide)), zx_16, if_neg (nI_pos (by omega)), if_pos (show nI (16 * i + s) < Int32.ofNat 80 from (nI_ltI (by omega) (by decide)).mpr (by omega)), zi_in (n := 80) (by omega) (by decide), nI_clamp (by omega)]
  simp only [cond_true]
  rcases c9 with c9 | c9
  · rw [if_pos c9]
    obtain ⟨g', q1, q2⟩ := ev_compare_16 (dp := dp) (Dm.1, Dm.2) (i := i) (s := s) (m := zT_m T) (mo := zX_mo X) (pl := zT_pl T) (ho := za_ho T) hi hs hsm c1 hT.2.2.1 (fun e he => ⟨c2 e he, hpl e⟩) (fun e he => by have h4 := hT.2.2.1; rw [c3 e (by omega)]; exact zn_3 (hT.2.2.2.2.2.2.2.2.1 e)) c5 (za_ho_lt T i) c7 hmo
    have e2 : zf_pk s (Dm.1 14) (Dm.1 13) (Dm.1 19) (fun e => Dm.1 22 (5 * i + zT_pl T e)) (za_ho T i) (zX_mo X) = za_pk T X i s := zf_pk_congr (fun e he _ => c4 e he) (fun e he _ => c3 e he) (fun e he _ => c6 e he) (fun e _ _ => c8 _ (hpl e))
    replace q2 := q2.trans (congrArg (fun z => zo_i (zf_pi z) (g', Dm.2)) e2)
    rw [q2]
    simp only [Option.bind_some, zw_same]
    refine ⟨_, fun c h7 h8 => ?_, ⟨fun a b ha hb => ?_, fun a ha => ?_, fun a t ha ht htm => ?_⟩, rfl⟩
    · rw [zw_cell _ _ _ h7]; exact q1 c h8
    · rw [zw_cell _ _ _ (by decide)]; exact (congrFun (q1 22 (by decide)) _).trans (cQ.1 a b ha hb)
    · rw [zw_cell _ _ _ (by decide)]; exact (congrFun (q1 21 (by decide)) _).trans (cQ.2.1 a ha)
    · by_cases hx : 16 * a + t = 16 * i + s
      · have ha' : a = i := by omega
        have ht' : t = s := by omega
        subst ha'; subst ht'
        right; exact zw_same _ _ _ _
      · show zv_w g' 23 (16 * i + s) _ 23 (16 * a + t) = -2 ∨ zv_w g' 23 (16 * i + s) _ 23 (16 * a + t) = _
        rw [zw_other _ _ _ hx, q1 23 (by decide)]
        exact cQ.2.2 a t ha ht htm
  · rw [if_neg (by rw [c9]; exact zf_pi_ne hle), c9]
    exact ⟨Dm.1, fun _ _ _ => rfl, cQ, rfl⟩
theorem ev_pick_27 {dp : Nat} {Dm : zv_D} {T : zT} {X : zX} {A : zA} {i s : Nat} (hC : zC 27 Dm.1 T X A) (hi : i < 5) (hs : s < 16) (hsm : ∀ e, e < 4 → s.testBit e = true → e < zT_m T) :
    ∃ g', (∀ c, c ≠ 34 → c ≠ 35 → g' c = Dm.1 c) ∧ zC_Q 27 g' T X ∧ zv_ev (dp + 3) 61 [.ref 27, .int (nI i), .int (nI s)] zS0 Dm = zo_i (zf_pi (za_pk T X i s)) (g', Dm.2) := by
  obtain ⟨hT, hX, hW, cT, cX, cQ⟩ := hC
  have c1 : Dm.1 9 1 = nI (zT_m T) := cT.2.1
  have c2 : ∀ e, e < 4 → Dm.1 12 e = nI (zT_pl T e) := cT.2.2.2.1
  have c3 : ∀ e, e < 4 → Dm.1 13 e = nI (zT_ne T e) := cT.2.2.2.2.1
  have c4 : ∀ e, e < 4 → Dm.1 14 e = nI (zT_pa T e) := cT.2.2.2.2.2.1
  have c5 : Dm.1 15 i = nI (za_ho T i) := cT.2.2.2.2.2.2.1 i hi
  have c6 : ∀ e, e < 4 → Dm.1 30 e = nI (zX_we X e) := cX.2.1
  have c7 : Dm.1 28 5 = nI (zX_mo X) := cX.2.2.2.2.2
  have c8 : ∀ j, j < 5 → Dm.1 33 (5 * i + j) = nI (za_di (zX_co X) i j) := fun j hj => cQ.1 i j hi hj
  have c9 : Dm.1 34 (16 * i + s) = -2 ∨ Dm.1 34 (16 * i + s) = zf_pi (za_pk T X i s) := cQ.2.2 i s hi hs hsm
  have hmo : zX_mo X ≤ 2 := hX.2.2.2.2.2.2
  have hpl : ∀ e, zT_pl T e < 5 := hT.2.2.2.2.2.2.1
  have hle := za_pk_le T X i s
  suffices hh : ∃ g', (∀ c, c ≠ 34 → c ≠ 35 → g' c = Dm.1 c) ∧ zC_Q 27 g' T X ∧ zv_m zt_X6_pick (zv_ev (dp + 2)) false 0 [some (.ref 27), some (.int (nI i)), some (.int (nI s)), none] [] zS0 (Dm.1, Dm.2) = zv_ri (zf_pi (za_pk T X i s)) zS0 (g', Dm.2) from hh.imp fun g' hg => ⟨hg.1, hg.2.1, zs_X6_pick_27 hg.2.2⟩
  rw [zd_X6_pick_27, if_neg (nI_pos (by omega)), if_neg (zi_ge 5 5 rfl hi (by decide)), zx_16, if_neg (nI_pos (by omega)), if_pos (show nI (16 * i + s) < Int32.ofNat 80 from (nI_ltI (by omega) (by decide)).mpr (by omega)), zi_in (n := 80) (by omega) (by decide), nI_clamp (by omega)]
  simp only [cond_true]
  rcases c9 with c9 | c9
  · rw [if_pos c9]
    obtain ⟨g', q1, q2⟩ := ev_compare_27 (dp := dp) (Dm.1, Dm.2) (i := i) (s := s) (m := zT_m T) (mo := zX_mo X) (pl := zT_pl T) (ho := za_ho T) hi hs hsm c1 hT.2.2.1 (fun e he => ⟨c2 e he, hpl e⟩) (fun e he => by have h4 := hT.2.2.1; rw [c3 e (by omega)]; exact zn_3 (hT.2.2.2.2.2.2.2.2.1 e)) c5 (za_ho_lt T i) c7 hmo
    have e2 : zf_pk s (Dm.1 14) (Dm.1 13) (Dm.1 30) (fun e => Dm.1 33 (5 * i + zT_pl T e)) (za_ho T i) (zX_mo X) = za_pk T X i s := zf_pk_congr (fun e he _ => c4 e he) (fun e he _ => c3 e he) (fun e he _ => c6 e he) (fun e _ _ => c8 _ (hpl e))
    replace q2 := q2.trans (congrArg (fun z => zo_i (zf_pi z) (g', Dm.2)) e2)
    rw [q2]
    simp only [Option.bind_some, zw_same]
    refine ⟨_, fun c h7 h8 => ?_, ⟨fun a b ha hb => ?_, fun a ha => ?_, fun a t ha ht htm => ?_⟩, rfl⟩
    · rw [zw_cell _ _ _ h7]; exact q1 c h8
    · rw [zw_cell _ _ _ (by decide)]; exact (congrFun (q1 33 (by decide)) _).trans (cQ.1 a b ha hb)
    · rw [zw_cell _ _ _ (by decide)]; exact (congrFun (q1 32 (by decide)) _).trans (cQ.2.1 a ha)
    · by_cases hx : 16 * a + t = 16 * i + s
      · have ha' : a = i := by omega
        have ht' : t = s := by omega
        subst ha'; subst ht'
        right; exact zw_same _ _ _ _
      · show zv_w g' 34 (16 * i + s) _ 34 (16 * a + t) = -2 ∨ zv_w g' 34 (16 * i + s) _ 34 (16 * a + t) = _
        rw [zw_other _ _ _ hx, q1 34 (by decide)]
        exact cQ.2.2 a t ha ht htm
  · rw [if_neg (by rw [c9]; exact zf_pi_ne hle), c9]
    exact ⟨Dm.1, fun _ _ _ => rfl, cQ, rfl⟩
