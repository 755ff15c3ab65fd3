/-! ===== packets ===== -/
/-- the next router towards j (5: none), and over how much -/
def za_nx (X : zX) (i j : Nat) : Nat → Nat × Nat
  | 0 => (5, 1000)
  | k + 1 => if 0 < zX_co X (5 * i + k) ∧ zX_co X (5 * i + k) + za_di (zX_co X) k j < (za_nx X i j k).2 then (k, zX_co X (5 * i + k) + za_di (zX_co X) k j) else za_nx X i j k
theorem za_nx_ok (X : zX) (i j : Nat) : ∀ k, ((za_nx X i j k).1 = 5 ∧ (za_nx X i j k).2 = 1000) ∨ ((za_nx X i j k).1 < k ∧ (za_nx X i j k).2 < 1000) := by
  intro k
  induction k with
  | zero => exact Or.inl ⟨rfl, rfl⟩
  | succ k ih =>
    unfold za_nx
    split
    · rename_i h
      refine Or.inr ⟨Nat.lt_succ_self _, ?_⟩
      dsimp only
      rcases ih with q | q <;> omega
    · rcases ih with q | q
      · exact Or.inl q
      · exact Or.inr ⟨by omega, q.2⟩
/-- how a packet goes on, over at most f links more: exit, links -/
def za_wk (T : zT) (X : zX) (A : zA) : Nat → Nat → Nat → Option (Nat × Nat)
  | 0, _, _ => none
  | f + 1, i, k => if A i 0 = 0 then none else if zT_pl T (zc_e (A i 0)) = i then some (zc_e (A i 0), k) else if (za_nx X i (zT_pl T (zc_e (A i 0))) (zT_n T)).1 = 5 then none else za_wk T X A f (za_nx X i (zT_pl T (zc_e (A i 0))) (zT_n T)).1 (k + 1)
def za_wv (n : Int32) (o : Option (Nat × Nat)) : Int32 := match o with
  | none => n
  | some p => nI p.1
theorem za_wk_ok {T : zT} {X : zX} {A : zA} (hT : zT_ok T) (hW : za_W T A) : ∀ f i k p, za_wk T X A f i k = some p → p.1 < zT_m T ∧ p.2 < k + f := by
  intro f
  induction f with
  | zero => intro i k p h; cases h
  | succ f ih =>
    intro i k p h
    unfold za_wk at h
    split at h
    · cases h
    · rename_i h0
      split at h
      · cases h
        rcases hW.1 i 0 with q | q
        · exact absurd q h0
        · exact ⟨q.2.2.1, by dsimp only; omega⟩
      · split at h
        · cases h
        · have := ih _ _ _ h
          exact ⟨this.1, by omega⟩
def zn_5 (n : Int32) (p : Nat) : Int32 := if p = 5 then n else nI p
theorem ev_nextHop_16 {dp : Nat} {Dm : zv_D} {T : zT} {X : zX} {A : zA} {i j : Nat} (hC : zC 16 Dm.1 T X A) (hi : i < 5) (hj : j < 5) : zv_ev (dp + 2) 65 [.ref 16, .int (nI i), .int (nI j)] zS0 Dm = zo_i (zn_5 (-1) (za_nx X i j (zT_n T)).1) Dm := by
  have h5 := hC.1.2.1
  have c0 : Dm.1 9 0 = nI (zT_n T) := hC.2.2.2.1.1
  have cc : ∀ k, k < 25 → Dm.1 18 k = nI (zX_co X k) := hC.2.2.2.2.1.1
  have cd : ∀ i j, i < 5 → j < 5 → Dm.1 22 (5 * i + j) = nI (za_di (zX_co X) i j) := hC.2.2.2.2.2.1
  obtain ⟨u, -, r1⟩ := zl_up (σ := Option Value × Option Value) (fun k u => zv_m zt_X6_nextHop (zv_ev (dp + 1)) false 10 [some (.ref 16), some (.int (nI i)), some (.int (nI j)), some (.int (zn_5 (-1) (za_nx X i j k).1)), some (.int (nI (za_nx X i j k).2)), some (.int (nI k)), u.1, u.2] [] zS0 (Dm.1, Dm.2)) (zT_n T) (fun _ _ => True) (by
    rintro k ⟨u6, u7⟩ hk -
    have hst := zd_X6_nextHop_16_10 (zv_ev (dp + 1)) Dm.1 Dm.2 (nI i) (nI j) (zn_5 (-1) (za_nx X i j k).1) (nI (za_nx X i j k).2) (nI k) u6 u7
    have k5 : k < 5 := by omega
    have hc9 := hC.2.1.1 (5 * i + k)
    have hdf := za_di_fin hC.2.1.1 k j
    have hnx := za_nx_ok X i j k
    rw [c0, if_neg (nI_ge hk (by omega)), ev_costOf_17 (dp := dp) (Dm.1, Dm.2) hi k5] at hst
    simp only [Option.bind_some] at hst
    rw [ev_distance_16 (dp := dp) (Dm.1, Dm.2) k5 hj] at hst
    simp only [Option.bind_some] at hst
    rw [cc _ (by omega), cd k j k5 hj, nI_add, nI_1] at hst
    dsimp only
    by_cases h0 : zX_co X (5 * i + k) = 0
    · rw [if_pos ((zi_le0 (by omega)).mpr h0)] at hst
      have e : za_nx X i j (k + 1) = za_nx X i j k := if_neg (fun z => by omega)
      rw [e]
      exact ⟨(_, _), trivial, hst⟩
    · rw [if_neg (fun z => h0 ((zi_le0 (by omega)).mp z))] at hst
      by_cases h1 : (za_nx X i j k).2 ≤ zX_co X (5 * i + k) + za_di (zX_co X) k j
      · rw [if_pos ((nI_leI (by omega) (by omega)).mpr h1)] at hst
        have e : za_nx X i j (k + 1) = za_nx X i j k := if_neg (fun z => by omega)
        rw [e]
        exact ⟨(_, _), trivial, hst⟩
      · rw [if_neg (fun z => h1 ((nI_leI (by omega) (by omega)).mp z))] at hst
        have e : za_nx X i j (k + 1) = (k, zX_co X (5 * i + k) + za_di (zX_co X) k j) := if_pos ⟨by omega, by omega⟩
        rw [e]
        have e5 : zn_5 (-1) k = nI k := if_neg (by omega)
        rw [e5]
        exact ⟨(_, _), trivial, hst⟩) (none, none) trivial
  refine zs_X6_nextHop_16 ((zd_X6_nextHop_16 _ Dm.1 Dm.2 _ _).trans (r1.trans ?_))
  rw [zd_X6_nextHop_16_10, c0, if_pos (nI_le (Nat.le_refl _) (by omega))]
theorem zx_send_16 {dp : Nat} {g : Nat → Nat → Int32} {h : Nat → Nat → Int64} {T : zT} {X : zX} {A : zA} (hC : zC 16 g T X A) (u1 : Option Value) : ∀ (f i k : Nat) (u4 u5 : Option Value), k + f = 6 → i < zT_n T → ∃ g', (∀ x, x ≠ 16 → g' x = g x) ∧ (∀ p, za_wk T X A f i k = some p → g' 16 3 = nI p.2) ∧ zv_m zt_X6_send (zv_ev (dp + 2)) false 4 [some (.ref 16), u1, some (.int (nI i)), some (.int (nI k)), u4, u5] [] zS0 (g, h) = zv_ri (za_wv (-1) (za_wk T X A f i k)) zS0 (g', h) := by
  have h5 := hC.1.2.1
  have hT := hC.1
  have cp : ∀ e, e < 4 → g 12 e = nI (zT_pl T e) := hC.2.2.2.1.2.2.2.1
  intro f
  induction f with
  | zero =>
    intro i k u4 u5 hk hi
    refine ⟨g, fun _ _ => rfl, fun p hp => (by cases hp), ?_⟩
    rw [zd_X6_send_16_4, if_pos (zi_le 6 6 rfl (by omega) (by omega))]
    rfl
  | succ f ih =>
    intro i k u4 u5 hk hi
    have hst := zd_X6_send_16_4 (zv_ev (dp + 2)) g h u1 (nI i) (nI k) u4 u5
    rw [if_neg (zi_ge 6 6 rfl (by omega) (by decide)), ev_firstC_16 (dp := dp) (Dm := (g, h)) hC (by omega)] at hst
    simp only [Option.bind_some] at hst
    unfold za_wk
    by_cases h0 : A i 0 = 0
    · rw [if_pos h0, if_pos (by decide)] at hst
      rw [if_pos h0]
      exact ⟨g, fun _ _ => rfl, fun p hp => (by cases hp), hst⟩
    · have el := zc_e_lt (A i 0)
      have em : zc_e (A i 0) < zT_m T := by
        rcases hC.2.2.1.1 i 0 with z | z
        · exact absurd z h0
        · exact z.2.2.1
      have pn : zT_pl T (zc_e (A i 0)) < zT_n T := hT.2.2.2.2.2.2.2.1 _ em
      rw [if_neg h0, if_neg (nI_pos (by omega)), if_pos (show nI (zc_e (A i 0)) < 4 from nI_lt (b := 4) el (by decide)), zi_in (n := 4) el (by decide), nI_clamp (by omega), cp _ el, cond_true] at hst
      rw [if_neg h0]
      by_cases h1 : zT_pl T (zc_e (A i 0)) = i
      · rw [if_pos (by rw [h1])] at hst
        rw [if_pos h1]
        exact ⟨_, fun x hx => zw_cell _ _ _ hx, fun p hp => (by cases hp; exact zw_same _ _ _ _), hst⟩
      · rw [if_neg (fun z => h1 ((nI_eq (by omega) (by omega)).mp z)), ev_nextHop_16 (dp := dp) (Dm := (g, h)) hC (by omega) (by omega)] at hst
        simp only [Option.bind_some] at hst
        rw [if_neg h1]
        have hnx := za_nx_ok X i (zT_pl T (zc_e (A i 0))) (zT_n T)
        by_cases h2 : (za_nx X i (zT_pl T (zc_e (A i 0))) (zT_n T)).1 = 5
        · have e5 : zn_5 (-1) (za_nx X i (zT_pl T (zc_e (A i 0))) (zT_n T)).1 = -1 := if_pos h2
          rw [e5, if_neg (by decide)] at hst
          rw [if_pos h2]
          exact ⟨g, fun _ _ => rfl, fun p hp => (by cases hp), hst⟩
        · have e5 : zn_5 (-1) (za_nx X i (zT_pl T (zc_e (A i 0))) (zT_n T)).1 = nI (za_nx X i (zT_pl T (zc_e (A i 0))) (zT_n T)).1 := if_neg h2
          have hlt : (za_nx X i (zT_pl T (zc_e (A i 0))) (zT_n T)).1 < zT_n T := by
            rcases hnx with z | z
            · exact absurd z.1 h2
            · exact z.1
          rw [e5, if_pos (nI_pos' (by omega)), nI_1] at hst
          rw [if_neg h2]
          obtain ⟨g', f', p', r'⟩ := ih (za_nx X i (zT_pl T (zc_e (A i 0))) (zT_n T)).1 (k + 1) (some (.int (nI (zc_e (A i 0))))) (some (.int (nI (zT_pl T (zc_e (A i 0)))))) (by omega) hlt
          exact ⟨g', f', p', hst.trans r'⟩
theorem ev_send_16 {dp : Nat} {Dm : zv_D} {T : zT} {X : zX} {A : zA} {i : Nat} (hC : zC 16 Dm.1 T X A) (hi : i < zT_n T) : ∃ g', (∀ x, x ≠ 16 → g' x = Dm.1 x) ∧ (∀ p, za_wk T X A 6 i 0 = some p → g' 16 3 = nI p.2) ∧ zv_ev (dp + 3) 64 [.ref 16, .int (nI i)] zS0 Dm = zo_i (za_wv (-1) (za_wk T X A 6 i 0)) (g', Dm.2) := by
  obtain ⟨g', f', p', r'⟩ := zx_send_16 (dp := dp) (g := Dm.1) (h := Dm.2) hC (some (.int (nI i))) 6 i 0 none none (by decide) hi
  exact ⟨g', f', p', zs_X6_send_16 ((zd_X6_send_16 _ Dm.1 Dm.2 _).trans r')⟩
theorem ev_nextHop_27 {dp : Nat} {Dm : zv_D} {T : zT} {X : zX} {A : zA} {i j : Nat} (hC : zC 27 Dm.1 T X A) (hi : i < 5) (hj : j < 5) : zv_ev (dp + 2) 65 [.ref 27, .int (nI i), .int (nI j)] zS0 Dm = zo_i (zn_5 (-1) (za_nx X i j (zT_n T)).1) Dm := by
  have h5 := hC.1.2.1
  have c0 : Dm.1 9 0 = nI (zT_n T) := hC.2.2.2.1.1
  have cc : ∀ k, k < 25 → Dm.1 29 k = nI (zX_co X k) := hC.2.2.2.2.1.1
  have cd : ∀ i j, i < 5 → j < 5 → Dm.1 33 (5 * i + j) = nI (za_di (zX_co X) i j) := hC.2.2.2.2.2.1
  obtain ⟨u, -, r1⟩ := zl_up (σ := Option Value × Option Value) (fun k u => zv_m zt_X6_nextHop (zv_ev (dp + 1)) false 10 [some (.ref 27), some (.int (nI i)), some (.int (nI j)), some (.int (zn_5 (-1) (za_nx X i j k).1)), some (.int (nI (za_nx X i j k).2)), some (.int (nI k)), u.1, u.2] [] zS0 (Dm.1, Dm.2)) (zT_n T) (fun _ _ => True) (by
    rintro k ⟨u6, u7⟩ hk -
    have hst := zd_X6_nextHop_27_10 (zv_ev (dp + 1)) Dm.1 Dm.2 (nI i) (nI j) (zn_5 (-1) (za_nx X i j k).1) (nI (za_nx X i j k).2) (nI k) u6 u7
    have k5 : k < 5 := by omega
    have hc9 := hC.2.1.1 (5 * i + k)
    have hdf := za_di_fin hC.2.1.1 k j
    have hnx := za_nx_ok X i j k
    rw [c0, if_neg (nI_ge hk (by omega)), ev_costOf_28 (dp := dp) (Dm.1, Dm.2) hi k5] at hst
    simp only [Option.bind_some] at hst
    rw [ev_distance_27 (dp := dp) (Dm.1, Dm.2) k5 hj] at hst
    simp only [Option.bind_some] at hst
    rw [cc _ (by omega), cd k j k5 hj, nI_add, nI_1] at hst
    dsimp only
    by_cases h0 : zX_co X (5 * i + k) = 0
    · rw [if_pos ((zi_le0 (by omega)).mpr h0)] at hst
      have e : za_nx X i j (k + 1) = za_nx X i j k := if_neg (fun z => by omega)
      rw [e]
      exact ⟨(_, _), trivial, hst⟩
    · rw [if_neg (fun z => h0 ((zi_le0 (by omega)).mp z))] at hst
      by_cases h1 : (za_nx X i j k).2 ≤ zX_co X (5 * i + k) + za_di (zX_co X) k j
      · rw [if_pos ((nI_leI (by omega) (by omega)).mpr h1)] at hst
        have e : za_nx X i j (k + 1) = za_nx X i j k := if_neg (fun z => by omega)
        rw [e]
        exact ⟨(_, _), trivial, hst⟩
      · rw [if_neg (fun z => h1 ((nI_leI (by omega) (by omega)).mp z))] at hst
        have e : za_nx X i j (k + 1) = (k, zX_co X (5 * i + k) + za_di (zX_co X) k j) := if_pos ⟨by omega, by omega⟩
        rw [e]
        have e5 : zn_5 (-1) k = nI k := if_neg (by omega)
        rw [e5]
        exact ⟨(_, _), trivial, hst⟩) (none, none) trivial
  refine zs_X6_nextHop_27 ((zd_X6_nextHop_27 _ Dm.1 Dm.2 _ _).trans (r1.trans ?_))
  rw [zd_X6_nextHop_27_10, c0, if_pos (nI_le (Nat.le_refl _) (by omega))]
theorem zx_send_27 {dp : Nat} {g : Nat → Nat → Int32} {h : Nat → Nat → Int64} {T : zT} {X : zX} {A : zA} (hC : zC 27 g T X A) (u1 : Option Value) : ∀ (f i k : Nat) (u4 u5 : Option Value), k + f = 6 → i < zT_n T → ∃ g', (∀ x, x ≠ 27 → g' x = g x) ∧ (∀ p, za_wk T X A f i k = some p → g' 27 3 = nI p.2) ∧ zv_m zt_X6_send (zv_ev (dp + 2)) false 4 [some (.ref 27), u1, some (.int (nI i)), some (.int (nI k)), u4, u5] [] zS0 (g, h) = zv_ri (za_wv (-1) (za_wk T X A f i k)) zS0 (g', h) := by
  have h5 := hC.1.2.1
  have hT := hC.1
  have cp : ∀ e, e < 4 → g 12 e = nI (zT_pl T e) := hC.2.2.2.1.2.2.2.1
  intro f
  induction f with
  | zero =>
    intro i k u4 u5 hk hi
    refine ⟨g, fun _ _ => rfl, fun p hp => (by cases hp), ?_⟩
    rw [zd_X6_send_27_4, if_pos (zi_le 6 6 rfl (by omega) (by omega))]
    rfl
  | succ f ih =>
    intro i k u4 u5 hk hi
    have hst := zd_X6_send_27_4 (zv_ev (dp + 2)) g h u1 (nI i) (nI k) u4 u5
    rw [if_neg (zi_ge 6 6 rfl (by omega) (by decide)), ev_firstC_27 (dp := dp) (Dm := (g, h)) hC (by omega)] at hst
    simp only [Option.bind_some] at hst
    unfold za_wk
    by_cases h0 : A i 0 = 0
    · rw [if_pos h0, if_pos (by decide)] at hst
      rw [if_pos h0]
      exact ⟨g, fun _ _ => rfl, fun p hp => (by cases hp), hst⟩
    · have el := zc_e_lt (A i 0)
      have em : zc_e (A i 0) < zT_m T := by
        rcases hC.2.2.1.1 i 0 with z | z
        · exact absurd z h0
        · exact z.2.2.1
      have pn : zT_pl T (zc_e (A i 0)) < zT_n T := hT.2.2.2.2.2.2.2.1 _ em
      rw [if_neg h0, if_neg (nI_pos (by omega)), if_pos (show nI (zc_e (A i 0)) < 4 from nI_lt (b := 4) el (by decide)), zi_in (n := 4) el (by decide), nI_clamp (by omega), cp _ el, cond_true] at hst
      rw [if_neg h0]
      by_cases h1 : zT_pl T (zc_e (A i 0)) = i
      · rw [if_pos (by rw [h1])] at hst
        rw [if_pos h1]
        exact ⟨_, fun x hx => zw_cell _ _ _ hx, fun p hp => (by cases hp; exact zw_same _ _ _ _), hst⟩
      · rw [if_neg (fun z => h1 ((nI_eq (by omega) (by omega)).mp z)), ev_nextHop_27 (dp := dp) (Dm := (g, h)) hC (by omega) (by omega)] at hst
        simp only [Option.bind_some] at hst
        rw [if_neg h1]
        have hnx := za_nx_ok X i (zT_pl T (zc_e (A i 0))) (zT_n T)
        by_cases h2 : (za_nx X i (zT_pl T (zc_e (A i 0))) (zT_n T)).1 = 5
        · have e5 : zn_5 (-1) (za_nx X i (zT_pl T (zc_e (A i 0))) (zT_n T)).1 = -1 := if_pos h2
          rw [e5, if_neg (by decide)] at hst
          rw [if_pos h2]
          exact ⟨g, fun _ _ => rfl, fun p hp => (by cases hp), hst⟩
        · have e5 : zn_5 (-1) (za_nx X i (zT_pl T (zc_e (A i 0))) (zT_n T)).1 = nI (za_nx X i (zT_pl T (zc_e (A i 0))) (zT_n T)).1 := if_neg h2
          have hlt : (za_nx X i (zT_pl T (zc_e (A i 0))) (zT_n T)).1 < zT_n T := by
            rcases hnx with z | z
            · exact absurd z.1 h2
            · exact z.1
          rw [e5, if_pos (nI_pos' (by omega)), nI_1] at hst
          rw [if_neg h2]
          obtain ⟨g', f', p', r'⟩ := ih (za_nx X i (zT_pl T (zc_e (A i 0))) (zT_n T)).1 (k + 1) (some (.int (nI (zc_e (A i 0))))) (some (.int (nI (zT_pl T (zc_e (A i 0)))))) (by omega) hlt
          exact ⟨g', f', p', hst.trans r'⟩
theorem ev_send_27 {dp : Nat} {Dm : zv_D} {T : zT} {X : zX} {A : zA} {i : Nat} (hC : zC 27 Dm.1 T X A) (hi : i < zT_n T) : ∃ g', (∀ x, x ≠ 27 → g' x = Dm.1 x) ∧ (∀ p, za_wk T X A 6 i 0 = some p → g' 27 3 = nI p.2) ∧ zv_ev (dp + 3) 64 [.ref 27, .int (nI i)] zS0 Dm = zo_i (za_wv (-1) (za_wk T X A 6 i 0)) (g', Dm.2) := by
  obtain ⟨g', f', p', r'⟩ := zx_send_27 (dp := dp) (g := Dm.1) (h := Dm.2) hC (some (.int (nI i))) 6 i 0 none none (by decide) hi
  exact ⟨g', f', p', zs_X6_send_27 ((zd_X6_send_27 _ Dm.1 Dm.2 _).trans r')⟩
theorem zx_hop_119 {dp : Nat} {g : Nat → Nat → Int32} {h : Nat → Nat → Int64} {T : zT} {X : zX} {A : zA} (hT : zT_ok T) (hX : zX_ok T X) (hR : zM_R (g 119) T X A) (hK : zM_K g T X) {i j : Nat} (hi : i < zT_n T) (hj : j < zT_n T) (u2 u5 u10 u11 : Option Value) (x4 : Int32) : ∃ v10 v11, zv_m zt_X9_leaveFrom (zv_ev (dp + 1)) false 66 [some (.ref 116), some (.ref 119), u2, some (.int (nI i)), some (.int x4), u5, some (.int (nI j)), some (.int (-9)), some (.int (-9)), some (.int 0), u10, u11] [] zS0 (g, h) = zv_m zt_X9_leaveFrom (zv_ev (dp + 1)) false 66 [some (.ref 116), some (.ref 119), u2, some (.int (nI i)), some (.int x4), u5, some (.int (nI j)), some (.int (if (za_nx X i j (zT_n T)).1 = 5 then -9 else nI (za_nx X i j (zT_n T)).2)), some (.int (zn_5 (-9) (za_nx X i j (zT_n T)).1)), some (.int (nI (zT_n T))), v10, v11] [] zS0 (g, h) := by
  have h5 := hT.2.1
  have c0 : g 119 0 = nI (zT_n T) := hR.1
  have cc : ∀ k, k < 25 → g 119 (5 + k) = nI (zX_co X k) := hR.2.2.2.2.2.1
  obtain ⟨u, -, r1⟩ := zl_up (σ := Option Value × Option Value) (fun k u => zv_m zt_X9_leaveFrom (zv_ev (dp + 1)) false 66 [some (.ref 116), some (.ref 119), u2, some (.int (nI i)), some (.int x4), u5, some (.int (nI j)), some (.int (if (za_nx X i j k).1 = 5 then -9 else nI (za_nx X i j k).2)), some (.int (zn_5 (-9) (za_nx X i j k).1)), some (.int (nI k)), u.1, u.2] [] zS0 (g, h)) (zT_n T) (fun _ _ => True) (by
    rintro k ⟨v10, v11⟩ hk -
    have hst := zd_X9_leaveFrom_p119_66 (zv_ev (dp + 1)) g h u2 (nI i) x4 u5 (nI j) (if (za_nx X i j k).1 = 5 then -9 else nI (za_nx X i j k).2) (zn_5 (-9) (za_nx X i j k).1) (nI k) v10 v11
    have hc9 := hX.1 (5 * i + k)
    have hdf := za_di_fin hX.1 k j
    have hnx := za_nx_ok X i j k
    rw [c0, if_neg (nI_ge hk (by omega)), ev_pair (dp := dp) (g, h), zx_05] at hst
    simp only [Option.bind_some] at hst
    rw [zx_5, zi_in (n := 101) (by omega) (by decide), zi_in (n := 25) (by omega) (by decide), nI_clamp (by omega), nI_clamp (by omega), cc _ (by omega), hK k j hk hj, nI_1] at hst
    simp only [cond_true] at hst
    dsimp only
    by_cases h0 : zX_co X (5 * i + k) = 0
    · rw [if_pos ((zi_le0 (by omega)).mpr h0)] at hst
      have e : za_nx X i j (k + 1) = za_nx X i j k := if_neg (fun z => by omega)
      rw [e]
      exact ⟨(_, _), trivial, hst⟩
    · rw [if_neg (fun z => h0 ((zi_le0 (by omega)).mp z))] at hst
      by_cases hr : za_di (zX_co X) k j < 1000
      · rw [if_pos hr, if_neg (zi_ne9 (by omega)), nI_add] at hst
        by_cases h1 : (za_nx X i j k).2 ≤ zX_co X (5 * i + k) + za_di (zX_co X) k j
        · have e : za_nx X i j (k + 1) = za_nx X i j k := if_neg (fun z => by omega)
          have n5 : ¬ (za_nx X i j k).1 = 5 := fun z => by omega
          rw [if_neg n5, if_neg (zi_ne9 (by omega)), if_pos ((nI_leI (by omega) (by omega)).mpr h1)] at hst
          rw [e, if_neg n5]
          exact ⟨(_, _), trivial, hst⟩
        · have e : za_nx X i j (k + 1) = (k, zX_co X (5 * i + k) + za_di (zX_co X) k j) := if_pos ⟨by omega, by omega⟩
          have e5 : zn_5 (-9) k = nI k := if_neg (by omega)
          rw [e]
          dsimp only
          rw [e5, if_neg (show ¬ k = 5 by omega)]
          by_cases n5 : (za_nx X i j k).1 = 5
          · rw [if_pos n5, if_pos rfl] at hst
            rw [if_pos n5]
            exact ⟨(_, _), trivial, hst⟩
          · rw [if_neg n5, if_neg (zi_ne9 (by omega)), if_neg (fun z => h1 ((nI_leI (by omega) (by omega)).mp z))] at hst
            rw [if_neg n5]
            exact ⟨(_, _), trivial, hst⟩
      · rw [if_neg hr, if_pos rfl] at hst
        have e : za_nx X i j (k + 1) = za_nx X i j k := if_neg (fun z => by omega)
        rw [e]
        exact ⟨(_, _), trivial, hst⟩) (u10, u11) trivial
  exact ⟨u.1, u.2, r1⟩
theorem zx_leave_119 {dp : Nat} {g : Nat → Nat → Int32} {h : Nat → Nat → Int64} {T : zT} {X : zX} {A : zA} (hT : zT_ok T) (hX : zX_ok T X) (hW : za_W T A) (hR : zM_R (g 119) T X A) (hK : zM_K g T X) (u2 : Option Value) : ∀ (f i k : Nat) (u5 u6 u7 u8 u9 u10 u11 : Option Value), k + f = 6 → i < zT_n T → ∃ g', (∀ x, x ≠ 116 → g' x = g x) ∧ (∀ x, x ≠ 31 → g' 116 x = g 116 x) ∧ (∀ p, za_wk T X A f i k = some p → g' 116 31 = nI p.2) ∧ zv_m zt_X9_leaveFrom (zv_ev (dp + 1)) false 5 [some (.ref 116), some (.ref 119), u2, some (.int (nI i)), some (.int (nI k)), u5, u6, u7, u8, u9, u10, u11] [] zS0 (g, h) = zv_ri (za_wv (-9) (za_wk T X A f i k)) zS0 (g', h) := by
  have h5 := hT.2.1
  have c0 : g 119 0 = nI (zT_n T) := hR.1
  intro f
  induction f with
  | zero =>
    intro i k u5 u6 u7 u8 u9 u10 u11 hk hi
    refine ⟨g, fun _ _ => rfl, fun _ _ => rfl, fun p hp => (by cases hp), ?_⟩
    rw [zd_X9_leaveFrom_p119_5, if_pos (zi_le 6 6 rfl (by omega) (by omega))]
    rfl
  | succ f ih =>
    intro i k u5 u6 u7 u8 u9 u10 u11 hk hi
    have hst := zd_X9_leaveFrom_p119_5 (zv_ev (dp + 1)) g h u2 (nI i) (nI k) u5 u6 u7 u8 u9 u10 u11
    have hch := (hR.2.2.2.2.2.2.2.2 i 0 (by omega) (by decide)).1
    rw [if_neg (zi_ge 6 6 rfl (by omega) (by decide)), show (Value.int 0) = Value.int (nI 0) from rfl, ev_at (dp := dp) (g, h), zx_at] at hst
    simp only [Option.bind_some] at hst
    rw [zi_in (n := 101) (by omega) (by decide), nI_clamp (by omega), hch, cond_true] at hst
    unfold za_wk
    by_cases h0 : A i 0 = 0
    · rw [zm_v0 h0, if_pos rfl] at hst
      rw [if_pos h0]
      exact ⟨g, fun _ _ => rfl, fun _ _ => rfl, fun p hp => (by cases hp), hst⟩
    · have el := zc_e_lt (A i 0)
      have em : zc_e (A i 0) < zT_m T := by
        rcases hW.1 i 0 with z | z
        · exact absurd z h0
        · exact z.2.2.1
      have pn : zT_pl T (zc_e (A i 0)) < zT_n T := hT.2.2.2.2.2.2.2.1 _ em
      have cp := (hR.2.2.2.2.2.2.2.1 _ em).1
      rw [zm_v1 h0, if_neg (zi_ne9 (by omega)), ev_mexitOf_119 (dp := dp) (g, h) (w := 0) el (by decide)] at hst
      simp only [Option.bind_some] at hst
      rw [cp] at hst
      rw [if_neg h0]
      by_cases h1 : zT_pl T (zc_e (A i 0)) = i
      · rw [if_pos (by rw [h1])] at hst
        rw [if_pos h1]
        exact ⟨_, fun x hx => zw_cell _ _ _ hx, fun x hx => zw_other _ _ _ hx, fun p hp => (by cases hp; exact zw_same _ _ _ _), hst⟩
      · rw [if_neg (fun z => h1 ((nI_eq (by omega) (by omega)).mp z))] at hst
        obtain ⟨v10, v11, r1⟩ := zx_hop_119 (dp := dp) (g := g) (h := h) hT hX hR hK (i := i) (j := zT_pl T (zc_e (A i 0))) hi pn u2 (some (.int (nI (zc_e (A i 0))))) u10 u11 (nI k)
        have hs2 := hst.trans r1
        rw [zd_X9_leaveFrom_p119_66, c0, if_pos (nI_le (Nat.le_refl _) (by omega))] at hs2
        rw [if_neg h1]
        have hnx := za_nx_ok X i (zT_pl T (zc_e (A i 0))) (zT_n T)
        by_cases h2 : (za_nx X i (zT_pl T (zc_e (A i 0))) (zT_n T)).1 = 5
        · have e5 : zn_5 (-9) (za_nx X i (zT_pl T (zc_e (A i 0))) (zT_n T)).1 = -9 := if_pos h2
          rw [e5, if_pos rfl] at hs2
          rw [if_pos h2]
          exact ⟨g, fun _ _ => rfl, fun _ _ => rfl, fun p hp => (by cases hp), hs2⟩
        · have e5 : zn_5 (-9) (za_nx X i (zT_pl T (zc_e (A i 0))) (zT_n T)).1 = nI (za_nx X i (zT_pl T (zc_e (A i 0))) (zT_n T)).1 := if_neg h2
          have hlt : (za_nx X i (zT_pl T (zc_e (A i 0))) (zT_n T)).1 < zT_n T := by
            rcases hnx with z | z
            · exact absurd z.1 h2
            · exact z.1
          rw [e5, if_neg (zi_ne9 (by omega)), nI_1] at hs2
          rw [if_neg h2]
          obtain ⟨g', f', o', p', r'⟩ := ih (za_nx X i (zT_pl T (zc_e (A i 0))) (zT_n T)).1 (k + 1) _ _ _ _ _ _ _ (by omega) hlt
          exact ⟨g', f', o', p', hs2.trans r'⟩
theorem ev_leaveFrom_119 {dp : Nat} {Dm : zv_D} {T : zT} {X : zX} {A : zA} {i : Nat} (hT : zT_ok T) (hX : zX_ok T X) (hW : za_W T A) (hR : zM_R (Dm.1 119) T X A) (hK : zM_K Dm.1 T X) (hi : i < zT_n T) : ∃ g', (∀ x, x ≠ 116 → g' x = Dm.1 x) ∧ (∀ x, x ≠ 31 → g' 116 x = Dm.1 116 x) ∧ (∀ p, za_wk T X A 6 i 0 = some p → g' 116 31 = nI p.2) ∧ zv_ev (dp + 2) 184 [.ref 116, .ref 119, .int (nI i)] zS0 Dm = zo_i (za_wv (-9) (za_wk T X A 6 i 0)) (g', Dm.2) := by
  obtain ⟨g', f', o', p', r'⟩ := zx_leave_119 (dp := dp) (g := Dm.1) (h := Dm.2) hT hX hW hR hK (some (.int (nI i))) 6 i 0 none none none none none none none (by decide) hi
  exact ⟨g', f', o', p', zs_X9_leaveFrom_p119 ((zd_X9_leaveFrom_p119 _ Dm.1 Dm.2 _).trans r')⟩
theorem zx_hop_120 {dp : Nat} {g : Nat → Nat → Int32} {h : Nat → Nat → Int64} {T : zT} {X : zX} {A : zA} (hT : zT_ok T) (hX : zX_ok T X) (hR : zM_R (g 120) T X A) (hK : zM_K g T X) {i j : Nat} (hi : i < zT_n T) (hj : j < zT_n T) (u2 u5 u10 u11 : Option Value) (x4 : Int32) : ∃ v10 v11, zv_m zt_X9_leaveFrom (zv_ev (dp + 1)) false 66 [some (.ref 116), some (.ref 120), u2, some (.int (nI i)), some (.int x4), u5, some (.int (nI j)), some (.int (-9)), some (.int (-9)), some (.int 0), u10, u11] [] zS0 (g, h) = zv_m zt_X9_leaveFrom (zv_ev (dp + 1)) false 66 [some (.ref 116), some (.ref 120), u2, some (.int (nI i)), some (.int x4), u5, some (.int (nI j)), some (.int (if (za_nx X i j (zT_n T)).1 = 5 then -9 else nI (za_nx X i j (zT_n T)).2)), some (.int (zn_5 (-9) (za_nx X i j (zT_n T)).1)), some (.int (nI (zT_n T))), v10, v11] [] zS0 (g, h) := by
  have h5 := hT.2.1
  have c0 : g 120 0 = nI (zT_n T) := hR.1
  have cc : ∀ k, k < 25 → g 120 (5 + k) = nI (zX_co X k) := hR.2.2.2.2.2.1
  obtain ⟨u, -, r1⟩ := zl_up (σ := Option Value × Option Value) (fun k u => zv_m zt_X9_leaveFrom (zv_ev (dp + 1)) false 66 [some (.ref 116), some (.ref 120), u2, some (.int (nI i)), some (.int x4), u5, some (.int (nI j)), some (.int (if (za_nx X i j k).1 = 5 then -9 else nI (za_nx X i j k).2)), some (.int (zn_5 (-9) (za_nx X i j k).1)), some (.int (nI k)), u.1, u.2] [] zS0 (g, h)) (zT_n T) (fun _ _ => True) (by
    rintro k ⟨v10, v11⟩ hk -
    have hst := zd_X9_leaveFrom_p120_66 (zv_ev (dp + 1)) g h u2 (nI i) x4 u5 (nI j) (if (za_nx X i j k).1 = 5 then -9 else nI (za_nx X i j k).2) (zn_5 (-9) (za_nx X i j k).1) (nI k) v10 v11
    have hc9 := hX.1 (5 * i + k)
    have hdf := za_di_fin hX.1 k j
    have hnx := za_nx_ok X i j k
    rw [c0, if_neg (nI_ge hk (by omega)), ev_pair (dp := dp) (g, h), zx_05] at hst
    simp only [Option.bind_some] at hst
    rw [zx_5, zi_in (n := 101) (by omega) (by decide), zi_in (n := 25) (by omega) (by decide), nI_clamp (by omega), nI_clamp (by omega), cc _ (by omega), hK k j hk hj, nI_1] at hst
    simp only [cond_true] at hst
    dsimp only
    by_cases h0 : zX_co X (5 * i + k) = 0
    · rw [if_pos ((zi_le0 (by omega)).mpr h0)] at hst
      have e : za_nx X i j (k + 1) = za_nx X i j k := if_neg (fun z => by omega)
      rw [e]
      exact ⟨(_, _), trivial, hst⟩
    · rw [if_neg (fun z => h0 ((zi_le0 (by omega)).mp z))] at hst
      by_cases hr : za_di (zX_co X) k j < 1000
      · rw [if_pos hr, if_neg (zi_ne9 (by omega)), nI_add] at hst
        by_cases h1 : (za_nx X i j k).2 ≤ zX_co X (5 * i + k) + za_di (zX_co X) k j
        · have e : za_nx X i j (k + 1) = za_nx X i j k := if_neg (fun z => by omega)
          have n5 : ¬ (za_nx X i j k).1 = 5 := fun z => by omega
          rw [if_neg n5, if_neg (zi_ne9 (by omega)), if_pos ((nI_leI (by omega) (by omega)).mpr h1)] at hst
          rw [e, if_neg n5]
          exact ⟨(_, _), trivial, hst⟩
        · have e : za_nx X i j (k + 1) = (k, zX_co X (5 * i + k) + za_di (zX_co X) k j) := if_pos ⟨by omega, by omega⟩
          have e5 : zn_5 (-9) k = nI k := if_neg (by omega)
          rw [e]
          dsimp only
          rw [e5, if_neg (show ¬ k = 5 by omega)]
          by_cases n5 : (za_nx X i j k).1 = 5
          · rw [if_pos n5, if_pos rfl] at hst
            rw [if_pos n5]
            exact ⟨(_, _), trivial, hst⟩
          · rw [if_neg n5, if_neg (zi_ne9 (by omega)), if_neg (fun z => h1 ((nI_leI (by omega) (by omega)).mp z))] at hst
            rw [if_neg n5]
            exact ⟨(_, _), trivial, hst⟩
      · rw [if_neg hr, if_pos rfl] at hst
        have e : za_nx X i j (k + 1) = za_nx X i j k := if_neg (fun z => by omega)
        rw [e]
        exact ⟨(_, _), trivial, hst⟩) (u10, u11) trivial
  exact ⟨u.1, u.2, r1⟩
theorem zx_leave_120 {dp : Nat} {g : Nat → Nat → Int32} {h : Nat → Nat → Int64} {T : zT} {X : zX} {A : zA} (hT : zT_ok T) (hX : zX_ok T X) (hW : za_W T A) (hR : zM_R (g 120) T X A) (hK : zM_K g T X) (u2 : Option Value) : ∀ (f i k : Nat) (u5 u6 u7 u8 u9 u10 u11 : Option Value), k + f = 6 → i < zT_n T → ∃ g', (∀ x, x ≠ 116 → g' x = g x) ∧ (∀ x, x ≠ 31 → g' 116 x = g 116 x) ∧ (∀ p, za_wk T X A f i k = some p → g' 116 31 = nI p.2) ∧ zv_m zt_X9_leaveFrom (zv_ev (dp + 1)) false 5 [some (.ref 116), some (.ref 120), u2, some (.int (nI i)), some (.int (nI k)), u5, u6, u7, u8, u9, u10, u11] [] zS0 (g, h) = zv_ri (za_wv (-9) (za_wk T X A f i k)) zS0 (g', h) := by
  have h5 := hT.2.1
  have c0 : g 120 0 = nI (zT_n T) := hR.1
  intro f
  induction f with
  | zero =>
    intro i k u5 u6 u7 u8 u9 u10 u11 hk hi
    refine ⟨g, fun _ _ => rfl, fun _ _ => rfl, fun p hp => (by cases hp), ?_⟩
    rw [zd_X9_leaveFrom_p120_5, if_pos (zi_le 6 6 rfl (by omega) (by omega))]
    rfl
  | succ f ih =>
    intro i k u5 u6 u7 u8 u9 u10 u11 hk hi
    have hst := zd_X9_leaveFrom_p120_5 (zv_ev (dp + 1)) g h u2 (nI i) (nI k) u5 u6 u7 u8 u9 u10 u11
    have hch := (hR.2.2.2.2.2.2.2.2 i 0 (by omega) (by decide)).1
    rw [if_neg (zi_ge 6 6 rfl (by omega) (by decide)), show (Value.int 0) = Value.int (nI 0) from rfl, ev_at (dp := dp) (g, h), zx_at] at hst
    simp only [Option.bind_some] at hst
    rw [zi_in (n := 101) (by omega) (by decide), nI_clamp (by omega), hch, cond_true] at hst
    unfold za_wk
    by_cases h0 : A i 0 = 0
    · rw [zm_v0 h0, if_pos rfl] at hst
      rw [if_pos h0]
      exact ⟨g, fun _ _ => rfl, fun _ _ => rfl, fun p hp => (by cases hp), hst⟩
    · have el := zc_e_lt (A i 0)
      have em : zc_e (A i 0) < zT_m T := by
        rcases hW.1 i 0 with z | z
        · exact absurd z h0
        · exact z.2.2.1
      have pn : zT_pl T (zc_e (A i 0)) < zT_n T := hT.2.2.2.2.2.2.2.1 _ em
      have cp := (hR.2.2.2.2.2.2.2.1 _ em).1
      rw [zm_v1 h0, if_neg (zi_ne9 (by omega)), ev_mexitOf_120 (dp := dp) (g, h) (w := 0) el (by decide)] at hst
      simp only [Option.bind_some] at hst
      rw [cp] at hst
      rw [if_neg h0]
      by_cases h1 : zT_pl T (zc_e (A i 0)) = i
      · rw [if_pos (by rw [h1])] at hst
        rw [if_pos h1]
        exact ⟨_, fun x hx => zw_cell _ _ _ hx, fun x hx => zw_other _ _ _ hx, fun p hp => (by cases hp; exact zw_same _ _ _ _), hst⟩
      · rw [if_neg (fun z => h1 ((nI_eq (by omega) (by omega)).mp z))] at hst
        obtain ⟨v10, v11, r1⟩ := zx_hop_120 (dp := dp) (g := g) (h := h) hT hX hR hK (i := i) (j := zT_pl T (zc_e (A i 0))) hi pn u2 (some (.int (nI (zc_e (A i 0))))) u10 u11 (nI k)
        have hs2 := hst.trans r1
        rw [zd_X9_leaveFrom_p120_66, c0, if_pos (nI_le (Nat.le_refl _) (by omega))] at hs2
        rw [if_neg h1]
        have hnx := za_nx_ok X i (zT_pl T (zc_e (A i 0))) (zT_n T)
        by_cases h2 : (za_nx X i (zT_pl T (zc_e (A i 0))) (zT_n T)).1 = 5
        · have e5 : zn_5 (-9) (za_nx X i (zT_pl T (zc_e (A i 0))) (zT_n T)).1 = -9 := if_pos h2
          rw [e5, if_pos rfl] at hs2
          rw [if_pos h2]
          exact ⟨g, fun _ _ => rfl, fun _ _ => rfl, fun p hp => (by cases hp), hs2⟩
        · have e5 : zn_5 (-9) (za_nx X i (zT_pl T (zc_e (A i 0))) (zT_n T)).1 = nI (za_nx X i (zT_pl T (zc_e (A i 0))) (zT_n T)).1 := if_neg h2
          have hlt : (za_nx X i (zT_pl T (zc_e (A i 0))) (zT_n T)).1 < zT_n T := by
            rcases hnx with z | z
            · exact absurd z.1 h2
            · exact z.1
          rw [e5, if_neg (zi_ne9 (by omega)), nI_1] at hs2
          rw [if_neg h2]
          obtain ⟨g', f', o', p', r'⟩ := ih (za_nx X i (zT_pl T (zc_e (A i 0))) (zT_n T)).1 (k + 1) _ _ _ _ _ _ _ (by omega) hlt
          exact ⟨g', f', o', p', hs2.trans r'⟩
theorem ev_leaveFrom_120 {dp : Nat} {Dm : zv_D} {T : zT} {X : zX} {A : zA} {i : Nat} (hT : zT_ok T) (hX : zX_ok T X) (hW : za_W T A) (hR : zM_R (Dm.1 120) T X A) (hK : zM_K Dm.1 T X) (hi : i < zT_n T) : ∃ g', (∀ x, x ≠ 116 → g' x = Dm.1 x) ∧ (∀ x, x ≠ 31 → g' 116 x = Dm.1 116 x) ∧ (∀ p, za_wk T X A 6 i 0 = some p → g' 116 31 = nI p.2) ∧ zv_ev (dp + 2) 184 [.ref 116, .ref 120, .int (nI i)] zS0 Dm = zo_i (za_wv (-9) (za_wk T X A 6 i 0)) (g', Dm.2) := by
  obtain ⟨g', f', o', p', r'⟩ := zx_leave_120 (dp := dp) (g := Dm.1) (h := Dm.2) hT hX hW hR hK (some (.int (nI i))) 6 i 0 none none none none none none none (by decide) hi
  exact ⟨g', f', o', p', zs_X9_leaveFrom_p120 ((zd_X9_leaveFrom_p120 _ Dm.1 Dm.2 _).trans r')⟩
