/-! ===== acts ===== -/
def zX_sc (X : zX) (i j c : Nat) : zX := (fun k => if k = 5 * i + j ∨ k = 5 * j + i then c else zX_co X k, zX_we X, zX_up X, zX_ex X, zX_mo X)
def zX_sw (X : zX) (e v : Nat) : zX := (zX_co X, fun k => if k = e then v else zX_we X k, zX_up X, zX_ex X, zX_mo X)
def zX_sm (X : zX) (v : Nat) : zX := (zX_co X, zX_we X, zX_up X, zX_ex X, v)
def zX_su (X : zX) (u : Nat) : zX := (zX_co X, zX_we X, u, zX_ex X, zX_mo X)
def zX_se (X : zX) (x : Nat) : zX := (zX_co X, zX_we X, zX_up X, x, zX_mo X)
def zA_ad (X : zX) (A : zA) (i : Nat) : zA := fun j k => if j = i ∧ k = 1 ∧ (zX_ex X ^^^ 2 ^ i).testBit i = false then 0 else A j k
theorem zX_sc_ok {T : zT} {X : zX} (h : zX_ok T X) {i j c : Nat} (hi : i < zT_n T) (hj : j < zT_n T) (hn : zT_n T ≤ 5) (hij : i ≠ j) (hc : c ≤ 9) : zX_ok T (zX_sc X i j c) := by
  refine ⟨fun k => ?_, fun a b ha hb hab => ?_, fun a b ha hb => ?_, h.2.2.2⟩
  · show (if k = 5 * i + j ∨ k = 5 * j + i then c else zX_co X k) ≤ 9
    split
    · exact hc
    · exact h.1 k
  · show (if 5 * a + b = 5 * i + j ∨ 5 * a + b = 5 * j + i then c else zX_co X (5 * a + b)) = 0
    rw [if_neg (by omega)]
    exact h.2.1 a b ha hb hab
  · show (if 5 * a + b = 5 * i + j ∨ 5 * a + b = 5 * j + i then c else zX_co X (5 * a + b)) = (if 5 * b + a = 5 * i + j ∨ 5 * b + a = 5 * j + i then c else zX_co X (5 * b + a))
    by_cases q : 5 * a + b = 5 * i + j ∨ 5 * a + b = 5 * j + i
    · rw [if_pos q, if_pos (by omega)]
    · rw [if_neg q, if_neg (by omega)]
      exact h.2.2.1 a b ha hb
theorem zX_sw_ok {T : zT} {X : zX} (h : zX_ok T X) {e v : Nat} (hv : v ≤ 5) : zX_ok T (zX_sw X e v) := by
  refine ⟨h.1, h.2.1, h.2.2.1, fun k => ?_, h.2.2.2.2⟩
  show (if k = e then v else zX_we X k) ≤ 5
  split
  · exact hv
  · exact h.2.2.2.1 k
theorem zX_sm_ok {T : zT} {X : zX} (h : zX_ok T X) {v : Nat} (hv : v ≤ 2) : zX_ok T (zX_sm X v) := ⟨h.1, h.2.1, h.2.2.1, h.2.2.2.1, h.2.2.2.2.1, h.2.2.2.2.2.1, hv⟩
theorem zX_su_ok {T : zT} {X : zX} (h : zX_ok T X) {u : Nat} (hu : u < 2 ^ zT_m T) : zX_ok T (zX_su X u) := ⟨h.1, h.2.1, h.2.2.1, h.2.2.2.1, hu, h.2.2.2.2.2⟩
theorem zX_se_ok {T : zT} {X : zX} (h : zX_ok T X) {x : Nat} (hx : x < 2 ^ zT_n T) : zX_ok T (zX_se X x) := ⟨h.1, h.2.1, h.2.2.1, h.2.2.2.1, h.2.2.2.2.1, hx, h.2.2.2.2.2.2⟩
theorem zA_ad_W {T : zT} {X : zX} {A : zA} (h : za_W T A) (i : Nat) : za_W T (zA_ad X A i) := by
  refine ⟨fun j k => ?_, fun j hj => ?_, fun j k hjk => ?_⟩
  · unfold zA_ad
    split
    · exact Or.inl rfl
    · exact h.1 j k
  · unfold zA_ad at hj ⊢
    rw [if_neg (fun z => absurd z.2.1 (by decide))] at hj
    split
    · rfl
    · exact h.2.1 j hj
  · unfold zA_ad
    split
    · rfl
    · exact h.2.2 j k hjk
theorem zi_xor {a b : Nat} (ha : a < 2 ^ 31) (hb : b < 2 ^ 31) : nI a ^^^ nI b = nI (a ^^^ b) := by
  have h1 : (a ^^^ b) < 2 ^ 31 := Nat.xor_lt_two_pow ha hb
  apply Int32.toBitVec_inj.mp
  apply BitVec.eq_of_toNat_eq
  rw [Int32.toBitVec_xor, BitVec.toNat_xor, pk_tn (by omega), pk_tn (by omega), pk_tn (by omega)]
theorem zp_lt {k n : Nat} (h : k < n) : 2 ^ k < 2 ^ n := Nat.pow_lt_pow_right (by decide) h
theorem zp_31 {k : Nat} (h : k ≤ 5) : 2 ^ k ≤ 32 := by
  have : 2 ^ k ≤ 2 ^ 5 := Nat.pow_le_pow_right (by decide) h
  omega
theorem ev_changeCost {dp : Nat} {Dm : zv_D} {T : zT} {X : zX} {A : zA} {i j c : Nat} (hC : zC 16 Dm.1 T X A) (hi : i < zT_n T) (hj : j < zT_n T) (hij : i ≠ j) (hc : c ≤ 9) :
    ∃ g', zF 16 26 Dm.1 g' ∧ zC 16 g' T (zX_sc X i j c) A ∧ zv_ev (dp + 4) 49 [.ref 16, .int (nI i), .int (nI j), .int (nI c)] zS0 Dm = zo_v (g', Dm.2) := by
  have h5 := hC.1.2.1
  have hst := zd_X6_changeCost_16 (zv_ev (dp + 3)) Dm.1 Dm.2 (nI i) (nI j) (nI c)
  rw [zx_pair (i := i) (j := j) (by omega) (by omega), zx_pair (i := j) (j := i) (by omega) (by omega), if_neg (nI_pos (by omega)), if_neg (zi_ge 25 25 rfl (by omega) (by decide)), if_neg (nI_pos (by omega)), if_neg (zi_ge 25 25 rfl (by omega) (by decide)), zi_in (n := 25) (by omega) (by decide), zi_in (n := 25) (by omega) (by decide), nI_clamp (by omega), nI_clamp (by omega)] at hst
  simp only [cond_true] at hst
  have fr : ∀ x, x ≠ 18 → zv_w (zv_w Dm.1 18 (5 * i + j) (nI c)) 18 (5 * j + i) (nI c) x = Dm.1 x := fun x hx => (zw_cell _ _ _ hx).trans (zw_cell _ _ _ hx)
  obtain ⟨g1, g2, f2, C2, r1, r2⟩ := ev_anew (dp := dp) (Dm := (zv_w (zv_w Dm.1 18 (5 * i + j) (nI c)) 18 (5 * j + i) (nI c), Dm.2)) (T := T) (X := zX_sc X i j c) (A := A) hC.1 (zX_sc_ok hC.2.1 hi hj h5 hij hc) hC.2.2.1 (zC_T_of hC.2.2.2.1 (fun x h1 h2 => fr x (by omega))) (by
    have cX := hC.2.2.2.2.1
    refine ⟨fun k hk => ?_, fun e he => ?_, fun a ha => ?_, ?_, ?_, ?_⟩
    · show zv_w (zv_w Dm.1 18 (5 * i + j) (nI c)) 18 (5 * j + i) (nI c) 18 k = nI (if k = 5 * i + j ∨ k = 5 * j + i then c else zX_co X k)
      by_cases q1 : k = 5 * j + i
      · rw [q1, zw_same, if_pos (Or.inr rfl)]
      · rw [zw_other _ _ _ q1]
        by_cases q2 : k = 5 * i + j
        · rw [q2, zw_same, if_pos (Or.inl rfl)]
        · rw [zw_other _ _ _ q2, if_neg (by omega)]; exact cX.1 k hk
    · exact (congrFun (fr 19 (by decide)) e).trans (cX.2.1 e he)
    · exact (congrFun (fr 20 (by decide)) a).trans (cX.2.2.1 a ha)
    · exact (congrFun (fr 17 (by decide)) 3).trans cX.2.2.2.1
    · exact (congrFun (fr 17 (by decide)) 4).trans cX.2.2.2.2.1
    · exact (congrFun (fr 17 (by decide)) 5).trans cX.2.2.2.2.2)
  dsimp only at f2 r1 r2
  rw [r1] at hst
  simp only [Option.bind_some] at hst
  rw [r2] at hst
  exact ⟨g2, fun x hx => (f2 x (by omega) (by omega) (by omega)).trans (fr x (by omega)), C2, zs_X6_changeCost_16 hst⟩
theorem ev_changeMode {dp : Nat} {Dm : zv_D} {T : zT} {X : zX} {A : zA} {v : Nat} (hC : zC 16 Dm.1 T X A) (hv : v ≤ 2) :
    ∃ g', zF 16 26 Dm.1 g' ∧ zC 16 g' T (zX_sm X v) A ∧ zv_ev (dp + 4) 51 [.ref 16, .int (nI v)] zS0 Dm = zo_v (g', Dm.2) := by
  have cX := hC.2.2.2.2.1
  obtain ⟨g2, f2, C2, r2⟩ := ev_pickless_16 (dp := dp) (Dm := (Dm.1, Dm.2)) (X' := zX_sm X v) hC (zv_w Dm.1 17 5 (nI v)) (fun x h1 _ => zw_cell _ _ _ h1) (zX_sm_ok hC.2.1 hv) rfl ⟨fun k hk => (congrFun (zw_cell _ _ _ (by decide)) k).trans (cX.1 k hk), fun e he => (congrFun (zw_cell _ _ _ (by decide)) e).trans (cX.2.1 e he), fun a ha => (congrFun (zw_cell _ _ _ (by decide)) a).trans (cX.2.2.1 a ha), (zw_other _ _ _ (by decide)).trans cX.2.2.2.1, (zw_other _ _ _ (by decide)).trans cX.2.2.2.2.1, zw_same _ _ _ _⟩
  have hst := zd_X6_changeMode_16 (zv_ev (dp + 3)) Dm.1 Dm.2 (nI v)
  rw [r2] at hst
  exact ⟨g2, fun x hx => f2 x (by omega) (by omega) (by omega), C2, zs_X6_changeMode_16 hst⟩
theorem ev_changeWeight_16 {dp : Nat} {Dm : zv_D} {T : zT} {X : zX} {A : zA} {e v : Nat} (hC : zC 16 Dm.1 T X A) (he : e < zT_m T) (hv : v ≤ 5) :
    ∃ g', zF 16 26 Dm.1 g' ∧ zC 16 g' T (zX_sw X e v) A ∧ zv_ev (dp + 4) 50 [.ref 16, .int (nI e), .int (nI v)] zS0 Dm = zo_v (g', Dm.2) := by
  have h4 := hC.1.2.2.1
  have cX := hC.2.2.2.2.1
  obtain ⟨g2, f2, C2, r2⟩ := ev_pickless_16 (dp := dp) (Dm := (Dm.1, Dm.2)) (X' := zX_sw X e v) hC (zv_w Dm.1 19 e (nI v)) (fun x _ h2 => zw_cell _ _ _ h2) (zX_sw_ok hC.2.1 hv) rfl ⟨fun k hk => (congrFun (zw_cell _ _ _ (by decide)) k).trans (cX.1 k hk), fun a ha => (by
    show zv_w Dm.1 19 e (nI v) 19 a = nI (if a = e then v else zX_we X a)
    by_cases hae : a = e
    · subst hae; rw [zw_same, if_pos rfl]
    · rw [zw_other _ _ _ hae, if_neg hae]; exact cX.2.1 a ha), fun a ha => (congrFun (zw_cell _ _ _ (by decide)) a).trans (cX.2.2.1 a ha), (congrFun (zw_cell _ _ _ (by decide)) 3).trans cX.2.2.2.1, (congrFun (zw_cell _ _ _ (by decide)) 4).trans cX.2.2.2.2.1, (congrFun (zw_cell _ _ _ (by decide)) 5).trans cX.2.2.2.2.2⟩
  have hst := zd_X6_changeWeight_16 (zv_ev (dp + 3)) Dm.1 Dm.2 (nI e) (nI v)
  rw [if_neg (nI_pos (by omega)), if_neg (zi_ge 4 4 rfl (by omega) (by decide)), zi_in (n := 4) (by omega) (by decide), nI_clamp (by omega), r2] at hst
  exact ⟨g2, fun x hx => f2 x (by omega) (by omega) (by omega), C2, zs_X6_changeWeight_16 hst⟩
/-- up and added are put down -/
theorem zC_up_16 {g : Nat → Nat → Int32} {T : zT} {X : zX} {A : zA} {u : Nat} (hC : zC 16 g T X A) (hu : u < 2 ^ zT_m T) : zC 16 (zv_w g 17 3 (nI u)) T (zX_su X u) A := by
  have cX := hC.2.2.2.2.1
  exact ⟨hC.1, zX_su_ok hC.2.1 hu, hC.2.2.1, zC_T_of hC.2.2.2.1 (fun c h1 h2 => zw_cell _ _ _ (by omega)), ⟨fun k hk => (congrFun (zw_cell _ _ _ (by decide)) k).trans (cX.1 k hk), fun e he => (congrFun (zw_cell _ _ _ (by decide)) e).trans (cX.2.1 e he), fun a ha => (congrFun (zw_cell _ _ _ (by decide)) a).trans (cX.2.2.1 a ha), zw_same _ _ _ _, (zw_other _ _ _ (by decide)).trans cX.2.2.2.2.1, (zw_other _ _ _ (by decide)).trans cX.2.2.2.2.2⟩, zC_Q_of (T := T) (X := X) hC.2.2.2.2.2 (fun c h1 h2 => zw_cell _ _ _ (by omega))⟩
theorem zC_ex_16 {g : Nat → Nat → Int32} {T : zT} {X : zX} {A : zA} {u : Nat} (hC : zC 16 g T X A) (hu : u < 2 ^ zT_n T) : zC 16 (zv_w g 17 4 (nI u)) T (zX_se X u) A := by
  have cX := hC.2.2.2.2.1
  exact ⟨hC.1, zX_se_ok hC.2.1 hu, hC.2.2.1, zC_T_of hC.2.2.2.1 (fun c h1 h2 => zw_cell _ _ _ (by omega)), ⟨fun k hk => (congrFun (zw_cell _ _ _ (by decide)) k).trans (cX.1 k hk), fun e he => (congrFun (zw_cell _ _ _ (by decide)) e).trans (cX.2.1 e he), fun a ha => (congrFun (zw_cell _ _ _ (by decide)) a).trans (cX.2.2.1 a ha), (zw_other _ _ _ (by decide)).trans cX.2.2.2.1, zw_same _ _ _ _, (zw_other _ _ _ (by decide)).trans cX.2.2.2.2.2⟩, zC_Q_of (T := T) (X := X) hC.2.2.2.2.2 (fun c h1 h2 => zw_cell _ _ _ (by omega))⟩
theorem ev_flipC_16 {dp : Nat} {Dm : zv_D} {T : zT} {X : zX} {A : zA} {e : Nat} (hC : zC 16 Dm.1 T X A) (he : e < zT_m T) :
    ∃ g', zF 16 26 Dm.1 g' ∧ zC 16 g' T (zX_su X (zX_up X ^^^ 2 ^ e)) A ∧ zv_ev (dp + 1) 72 [.ref 17, .int (nI e)] zS0 Dm = zo_v (g', Dm.2) := by
  have h4 := hC.1.2.2.1
  have hup := hC.2.1.2.2.2.2.1
  have hp := zp_lt he
  have hm := zp_31 (show zT_m T ≤ 5 by omega)
  have c3 : Dm.1 17 3 = nI (zX_up X) := hC.2.2.2.2.1.2.2.2.1
  refine ⟨_, zF_w _ _ _ (by decide) (by decide), zC_up_16 hC (Nat.xor_lt_two_pow hup hp), (ev_flip_17 Dm (nI e)).trans ?_⟩
  rw [c3, zi_sh (by omega), zi_xor (by omega) (by omega)]
theorem ev_extendC_16 {dp : Nat} {Dm : zv_D} {T : zT} {X : zX} {A : zA} {i : Nat} (hC : zC 16 Dm.1 T X A) (hi : i < zT_n T) :
    ∃ g', zF 16 26 Dm.1 g' ∧ zC 16 g' T (zX_se X (zX_ex X ^^^ 2 ^ i)) (zA_ad X A i) ∧ zv_ev (dp + 1) 73 [.ref 17, .int (nI i)] zS0 Dm = zo_v (g', Dm.2) := by
  have h5 := hC.1.2.1
  have hex := hC.2.1.2.2.2.2.2.1
  have hp := zp_lt hi
  have hm := zp_31 h5
  have c4 : Dm.1 17 4 = nI (zX_ex X) := hC.2.2.2.2.1.2.2.2.2.1
  have c8 : ∀ j, j < 5 → Dm.1 20 j = nI (A j 0 + 2048 * A j 1) := hC.2.2.2.2.1.2.2.1
  have hx : zX_ex X ^^^ 2 ^ i < 2 ^ zT_n T := Nat.xor_lt_two_pow hex hp
  have hC1 := zC_ex_16 hC hx
  have hst := zd_X7_extend_17 (zv_ev dp) Dm.1 Dm.2 (nI i)
  rw [c4, zi_sh (by omega), zi_xor (by omega) (by omega), zw_same] at hst
  by_cases hb : (zX_ex X ^^^ 2 ^ i).testBit i = false
  · rw [if_pos (by rw [zi_b0t (by omega) (by omega)]; exact hb), if_neg (nI_pos (by omega)), if_neg (zi_ge 5 5 rfl (by omega) (by decide)), zi_in (n := 5) (by omega) (by decide), nI_clamp (by omega), zw_cell _ _ _ (by decide : 20 ≠ 17), c8 i (by omega), zi_lo (by have := za_R_lt (hC.2.2.1.1 i 0); have := za_R_lt (hC.2.2.1.1 i 1); omega)] at hst
    simp only [cond_true] at hst
    refine ⟨_, fun x hx => (zw_cell _ _ _ (by omega)).trans (zw_cell _ _ _ (by omega)), ⟨hC.1, hC1.2.1, zA_ad_W hC.2.2.1 i, zC_T_of hC1.2.2.2.1 (fun c h1 h2 => zw_cell _ _ _ (by omega)), zC_X_put hC1.2.2.2.2.1 (zw_cell _ _ _ (by decide)) (zw_cell _ _ _ (by decide)) (zw_cell _ _ _ (by decide)) (fun j hj => ?_), zC_Q_of hC1.2.2.2.2.2 (fun c h1 h2 => zw_cell _ _ _ (by omega))⟩, zs_X7_extend_17 hst⟩
    show zv_w (zv_w Dm.1 17 4 _) 20 i _ 20 j = _
    unfold zA_ad
    by_cases hji : j = i
    · subst hji
      have := za_R_lt (hC.2.2.1.1 j 0)
      rw [zw_same, if_neg (fun z => absurd z.2.1 (by decide)), if_pos ⟨rfl, rfl, hb⟩, show (A j 0 + 2048 * A j 1) % 2048 = A j 0 by omega, Nat.mul_zero, Nat.add_zero]
    · rw [zw_other _ _ _ hji, zw_cell _ _ _ (by decide), if_neg (fun z => hji z.1), if_neg (fun z => hji z.1)]
      exact c8 j hj
  · rw [if_neg (by rw [zi_b0t (by omega) (by omega)]; exact hb)] at hst
    have e : zA_ad X A i = A := by
      funext j k
      unfold zA_ad
      rw [if_neg (fun z => hb z.2.2)]
    rw [e]
    exact ⟨_, zF_w _ _ _ (by decide) (by decide), hC1, zs_X7_extend_17 hst⟩
theorem ev_changeWeight_27 {dp : Nat} {Dm : zv_D} {T : zT} {X : zX} {A : zA} {e v : Nat} (hC : zC 27 Dm.1 T X A) (he : e < zT_m T) (hv : v ≤ 5) :
    ∃ g', zF 27 37 Dm.1 g' ∧ zC 27 g' T (zX_sw X e v) A ∧ zv_ev (dp + 4) 50 [.ref 27, .int (nI e), .int (nI v)] zS0 Dm = zo_v (g', Dm.2) := by
  have h4 := hC.1.2.2.1
  have cX := hC.2.2.2.2.1
  obtain ⟨g2, f2, C2, r2⟩ := ev_pickless_27 (dp := dp) (Dm := (Dm.1, Dm.2)) (X' := zX_sw X e v) hC (zv_w Dm.1 30 e (nI v)) (fun x _ h2 => zw_cell _ _ _ h2) (zX_sw_ok hC.2.1 hv) rfl ⟨fun k hk => (congrFun (zw_cell _ _ _ (by decide)) k).trans (cX.1 k hk), fun a ha => (by
    show zv_w Dm.1 30 e (nI v) 30 a = nI (if a = e then v else zX_we X a)
    by_cases hae : a = e
    · subst hae; rw [zw_same, if_pos rfl]
    · rw [zw_other _ _ _ hae, if_neg hae]; exact cX.2.1 a ha), fun a ha => (congrFun (zw_cell _ _ _ (by decide)) a).trans (cX.2.2.1 a ha), (congrFun (zw_cell _ _ _ (by decide)) 3).trans cX.2.2.2.1, (congrFun (zw_cell _ _ _ (by decide)) 4).trans cX.2.2.2.2.1, (congrFun (zw_cell _ _ _ (by decide)) 5).trans cX.2.2.2.2.2⟩
  have hst := zd_X6_changeWeight_27 (zv_ev (dp + 3)) Dm.1 Dm.2 (nI e) (nI v)
  rw [if_neg (nI_pos (by omega)), if_neg (zi_ge 4 4 rfl (by omega) (by decide)), zi_in (n := 4) (by omega) (by decide), nI_clamp (by omega), r2] at hst
  exact ⟨g2, fun x hx => f2 x (by omega) (by omega) (by omega), C2, zs_X6_changeWeight_27 hst⟩
/-- up and added are put down -/
theorem zC_up_27 {g : Nat → Nat → Int32} {T : zT} {X : zX} {A : zA} {u : Nat} (hC : zC 27 g T X A) (hu : u < 2 ^ zT_m T) : zC 27 (zv_w g 28 3 (nI u)) T (zX_su X u) A := by
  have cX := hC.2.2.2.2.1
  exact ⟨hC.1, zX_su_ok hC.2.1 hu, hC.2.2.1, zC_T_of hC.2.2.2.1 (fun c h1 h2 => zw_cell _ _ _ (by omega)), ⟨fun k hk => (congrFun (zw_cell _ _ _ (by decide)) k).trans (cX.1 k hk), fun e he => (congrFun (zw_cell _ _ _ (by decide)) e).trans (cX.2.1 e he), fun a ha => (congrFun (zw_cell _ _ _ (by decide)) a).trans (cX.2.2.1 a ha), zw_same _ _ _ _, (zw_other _ _ _ (by decide)).trans cX.2.2.2.2.1, (zw_other _ _ _ (by decide)).trans cX.2.2.2.2.2⟩, zC_Q_of (T := T) (X := X) hC.2.2.2.2.2 (fun c h1 h2 => zw_cell _ _ _ (by omega))⟩
theorem zC_ex_27 {g : Nat → Nat → Int32} {T : zT} {X : zX} {A : zA} {u : Nat} (hC : zC 27 g T X A) (hu : u < 2 ^ zT_n T) : zC 27 (zv_w g 28 4 (nI u)) T (zX_se X u) A := by
  have cX := hC.2.2.2.2.1
  exact ⟨hC.1, zX_se_ok hC.2.1 hu, hC.2.2.1, zC_T_of hC.2.2.2.1 (fun c h1 h2 => zw_cell _ _ _ (by omega)), ⟨fun k hk => (congrFun (zw_cell _ _ _ (by decide)) k).trans (cX.1 k hk), fun e he => (congrFun (zw_cell _ _ _ (by decide)) e).trans (cX.2.1 e he), fun a ha => (congrFun (zw_cell _ _ _ (by decide)) a).trans (cX.2.2.1 a ha), (zw_other _ _ _ (by decide)).trans cX.2.2.2.1, zw_same _ _ _ _, (zw_other _ _ _ (by decide)).trans cX.2.2.2.2.2⟩, zC_Q_of (T := T) (X := X) hC.2.2.2.2.2 (fun c h1 h2 => zw_cell _ _ _ (by omega))⟩
theorem ev_flipC_27 {dp : Nat} {Dm : zv_D} {T : zT} {X : zX} {A : zA} {e : Nat} (hC : zC 27 Dm.1 T X A) (he : e < zT_m T) :
    ∃ g', zF 27 37 Dm.1 g' ∧ zC 27 g' T (zX_su X (zX_up X ^^^ 2 ^ e)) A ∧ zv_ev (dp + 1) 72 [.ref 28, .int (nI e)] zS0 Dm = zo_v (g', Dm.2) := by
  have h4 := hC.1.2.2.1
  have hup := hC.2.1.2.2.2.2.1
  have hp := zp_lt he
  have hm := zp_31 (show zT_m T ≤ 5 by omega)
  have c3 : Dm.1 28 3 = nI (zX_up X) := hC.2.2.2.2.1.2.2.2.1
  refine ⟨_, zF_w _ _ _ (by decide) (by decide), zC_up_27 hC (Nat.xor_lt_two_pow hup hp), (ev_flip_28 Dm (nI e)).trans ?_⟩
  rw [c3, zi_sh (by omega), zi_xor (by omega) (by omega)]
theorem ev_extendC_27 {dp : Nat} {Dm : zv_D} {T : zT} {X : zX} {A : zA} {i : Nat} (hC : zC 27 Dm.1 T X A) (hi : i < zT_n T) :
    ∃ g', zF 27 37 Dm.1 g' ∧ zC 27 g' T (zX_se X (zX_ex X ^^^ 2 ^ i)) (zA_ad X A i) ∧ zv_ev (dp + 1) 73 [.ref 28, .int (nI i)] zS0 Dm = zo_v (g', Dm.2) := by
  have h5 := hC.1.2.1
  have hex := hC.2.1.2.2.2.2.2.1
  have hp := zp_lt hi
  have hm := zp_31 h5
  have c4 : Dm.1 28 4 = nI (zX_ex X) := hC.2.2.2.2.1.2.2.2.2.1
  have c8 : ∀ j, j < 5 → Dm.1 31 j = nI (A j 0 + 2048 * A j 1) := hC.2.2.2.2.1.2.2.1
  have hx : zX_ex X ^^^ 2 ^ i < 2 ^ zT_n T := Nat.xor_lt_two_pow hex hp
  have hC1 := zC_ex_27 hC hx
  have hst := zd_X7_extend_28 (zv_ev dp) Dm.1 Dm.2 (nI i)
  rw [c4, zi_sh (by omega), zi_xor (by omega) (by omega), zw_same] at hst
  by_cases hb : (zX_ex X ^^^ 2 ^ i).testBit i = false
  · rw [if_pos (by rw [zi_b0t (by omega) (by omega)]; exact hb), if_neg (nI_pos (by omega)), if_neg (zi_ge 5 5 rfl (by omega) (by decide)), zi_in (n := 5) (by omega) (by decide), nI_clamp (by omega), zw_cell _ _ _ (by decide : 31 ≠ 28), c8 i (by omega), zi_lo (by have := za_R_lt (hC.2.2.1.1 i 0); have := za_R_lt (hC.2.2.1.1 i 1); omega)] at hst
    simp only [cond_true] at hst
    refine ⟨_, fun x hx => (zw_cell _ _ _ (by omega)).trans (zw_cell _ _ _ (by omega)), ⟨hC.1, hC1.2.1, zA_ad_W hC.2.2.1 i, zC_T_of hC1.2.2.2.1 (fun c h1 h2 => zw_cell _ _ _ (by omega)), zC_X_put hC1.2.2.2.2.1 (zw_cell _ _ _ (by decide)) (zw_cell _ _ _ (by decide)) (zw_cell _ _ _ (by decide)) (fun j hj => ?_), zC_Q_of hC1.2.2.2.2.2 (fun c h1 h2 => zw_cell _ _ _ (by omega))⟩, zs_X7_extend_28 hst⟩
    show zv_w (zv_w Dm.1 28 4 _) 31 i _ 31 j = _
    unfold zA_ad
    by_cases hji : j = i
    · subst hji
      have := za_R_lt (hC.2.2.1.1 j 0)
      rw [zw_same, if_neg (fun z => absurd z.2.1 (by decide)), if_pos ⟨rfl, rfl, hb⟩, show (A j 0 + 2048 * A j 1) % 2048 = A j 0 by omega, Nat.mul_zero, Nat.add_zero]
    · rw [zw_other _ _ _ hji, zw_cell _ _ _ (by decide), if_neg (fun z => hji z.1), if_neg (fun z => hji z.1)]
      exact c8 j hj
  · rw [if_neg (by rw [zi_b0t (by omega) (by omega)]; exact hb)] at hst
    have e : zA_ad X A i = A := by
      funext j k
      unfold zA_ad
      rw [if_neg (fun z => hb z.2.2)]
    rw [e]
    exact ⟨_, zF_w _ _ _ (by decide) (by decide), hC1, zs_X7_extend_28 hst⟩
