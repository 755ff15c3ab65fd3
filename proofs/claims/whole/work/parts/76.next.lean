theorem ev_swap {dp : Nat} {g : Nat → Nat → Int32} {h : Nat → Nat → Int64} {n i j : Nat} {o : Nat → Nat} (hn : n ≤ 5) (ho : ∀ k, k < n → o k < n ∧ g 41 k = nI (o k)) (hi : i < n) (hj : j < n) : ∃ g', (∀ x, x ≠ 41 → g' x = g x) ∧ (∀ k, k < n → zp_s o i j k < n ∧ g' 41 k = nI (zp_s o i j k)) ∧ zv_ev (dp + 1) 15 [.ref 40, .int (nI i), .int (nI j)] zS0 (g, h) = zo_v (g', h) := by
  have e1 := zd_X1_swap (zv_ev dp) g h (nI i) (nI j)
  rw [if_neg (nI_pos (by omega)), if_neg (zi_ge 5 5 rfl (by omega) (by decide)), if_neg (nI_pos (by omega)), if_neg (zi_ge 5 5 rfl (by omega) (by decide)), zi_in (n := 5) (by omega) (by decide), zi_in (n := 5) (by omega) (by decide), nI_clamp (by omega), nI_clamp (by omega)] at e1
  simp only [cond_true] at e1
  refine ⟨_, fun x hx => (zw_cell _ _ _ hx).trans (zw_cell _ _ _ hx), fun k hk => ?_, zs_X1_swap e1⟩
  unfold zp_s
  by_cases hkj : k = j
  · rw [if_pos hkj, hkj, zw_same]; exact ho i hi
  · rw [if_neg hkj, zw_other _ _ _ hkj]
    by_cases hki : k = i
    · rw [if_pos hki, hki, zw_same]; exact ho j hj
    · rw [if_neg hki, zw_other _ _ _ hki]; exact ho k hk
theorem zp_p_lt {o : Nat → Nat} : ∀ p q, zp_p o p = some q → q < p := by
  intro p
  induction p with
  | zero => intro q h; cases h
  | succ p ih =>
    intro q h
    unfold zp_p at h
    split at h
    · cases h; exact Nat.lt_succ_self _
    · have := ih q h; omega
theorem zp_q_le {o : Nat → Nat} {p : Nat} : ∀ q, zp_q o p q ≤ q := by
  intro q
  induction q with
  | zero => exact Nat.le_refl _
  | succ q ih =>
    unfold zp_q
    split
    · exact Nat.le_refl _
    · split
      · exact Nat.le_refl _
      · omega
theorem ev_nextOrder {dp : Nat} {g : Nat → Nat → Int32} {h : Nat → Nat → Int64} {n : Nat} {o : Nat → Nat} (h1 : 1 ≤ n) (hn : n ≤ 5) (ho : ∀ k, k < n → o k < n ∧ g 41 k = nI (o k)) : ∃ g', (∀ x, x ≠ 41 → g' x = g x) ∧ (∀ o', zp_n n o = some o' → ∀ k, k < n → o' k < n ∧ g' 41 k = nI (o' k)) ∧ zv_ev (dp + 2) 14 [.ref 40, .int (nI n)] zS0 (g, h) = zo_i (if (zp_n n o).isSome = true then 1 else 0) (g', h) := by
  -- turning round
  have rev : ∀ (f : Nat) (o : Nat → Nat) (s : Nat → Nat → Int32) (lo hi : Nat) (u1 u2 u3 : Option Value), hi ≤ lo + f → hi < n → (∀ k, k < n → o k < n ∧ s 41 k = nI (o k)) → lo < 8 → ∃ s', (∀ x, x ≠ 41 → s' x = s x) ∧ (∀ k, k < n → zp_r f o lo hi k < n ∧ s' 41 k = nI (zp_r f o lo hi k)) ∧ zv_m zt_X1_goToNextOrder (zv_ev (dp + 1)) true 83 [some (.ref 40), u1, u2, u3, some (.int (nI hi)), some (.int (nI lo))] [] zS0 (s, h) = zv_ri 1 zS0 (s', h) := by
    intro f
    induction f with
    | zero =>
      intro o s lo hi u1 u2 u3 hf hh hs hl
      refine ⟨s, fun _ _ => rfl, hs, ?_⟩
      rw [zd_X1_goToNextOrder_83, if_pos (nI_le (by omega) (by omega))]
    | succ f ih =>
      intro o s lo hi u1 u2 u3 hf hh hs hl
      have e1 := zd_X1_goToNextOrder_83 (zv_ev (dp + 1)) s h u1 u2 u3 (nI hi) (nI lo)
      unfold zp_r
      by_cases hq : hi ≤ lo
      · rw [if_pos (nI_le hq (by omega))] at e1
        rw [if_pos hq]
        exact ⟨s, fun _ _ => rfl, hs, e1⟩
      · obtain ⟨s1, f1, o1, r1⟩ := ev_swap (dp := dp) (h := h) hn hs (i := lo) (j := hi) (by omega) hh
        rw [if_neg (fun z => hq ((nI_leI (by omega) (by omega)).mp z)), r1, zx_m1, show nI hi - 1 = nI (hi - 1) from pk_sub (a := hi) (b := 1) (by omega), nI_1] at e1
        simp only [Option.bind_some] at e1
        obtain ⟨s2, f2, o2, r2⟩ := ih (zp_s o lo hi) s1 (lo + 1) (hi - 1) u1 u2 u3 (by omega) (by omega) o1 (by omega)
        rw [if_neg hq]
        exact ⟨s2, fun x hx => (f2 x hx).trans (f1 x hx), o2, e1.trans r2⟩
  have oth : ∀ (q p : Nat) (u4 u5 : Option Value), q < n → p < n → zv_m zt_X1_goToNextOrder (zv_ev (dp + 1)) true 41 [some (.ref 40), some (.int (nI n)), some (.int (nI p)), some (.int (nI q)), u4, u5] [] zS0 (g, h) = ((zv_ev (dp + 1) 15 [.ref 40, .int (nI p), .int (nI (zp_q o p q))] zS0 (g, h)).bind fun p2 => zv_m zt_X1_goToNextOrder (zv_ev (dp + 1)) true 83 [some (.ref 40), some (.int (nI n)), some (.int (nI p)), some (.int (nI (zp_q o p q))), some (.int (nI n - 1)), some (.int (nI p + 1))] [] zS0 p2.2) := by
    intro q
    induction q with
    | zero =>
      intro p u4 u5 hq hp
      rw [zd_X1_goToNextOrder_41, if_pos (nI_le (Nat.zero_le _) (by omega))]
      rfl
    | succ q ih =>
      intro p u4 u5 hq hp
      rw [zd_X1_goToNextOrder_41]
      have a1 := ho p hp
      have a2 := ho (q + 1) hq
      unfold zp_q
      by_cases c1 : q + 1 ≤ p
      · rw [if_pos (nI_le c1 (by omega)), if_pos c1]
      · rw [if_neg (fun z => c1 ((nI_leI (by omega) (by omega)).mp z)), if_neg c1, zi_in (n := 5) (by omega) (by decide), zi_in (n := 5) (by omega) (by decide), nI_clamp (by omega), nI_clamp (by omega), a1.2, a2.2, cond_true, cond_true]
        by_cases c2 : o p ≤ o (q + 1)
        · rw [if_pos (nI_le c2 (by omega)), if_pos c2]
        · rw [if_neg (fun z => c2 ((nI_leI (by omega) (by omega)).mp z)), if_neg c2, zx_m1, nI_pred]
          exact ih p u4 u5 (by omega) hp
  have piv : ∀ (p : Nat) (u3 u4 u5 : Option Value), p < n → zv_m zt_X1_goToNextOrder (zv_ev (dp + 1)) true 4 [some (.ref 40), some (.int (nI n)), some (.int (nI p - 1)), u3, u4, u5] [] zS0 (g, h) = (match zp_p o p with
      | none => zv_ri 0 zS0 (g, h)
      | some q => zv_m zt_X1_goToNextOrder (zv_ev (dp + 1)) true 41 [some (.ref 40), some (.int (nI n)), some (.int (nI q)), some (.int (nI n - 1)), u4, u5] [] zS0 (g, h)) := by
    intro p
    induction p with
    | zero =>
      intro u3 u4 u5 hp
      rw [zd_X1_goToNextOrder_4, if_pos (by decide), if_neg (by decide)]
      rfl
    | succ p ih =>
      intro u3 u4 u5 hp
      have a1 := ho p (by omega)
      have a2 := ho (p + 1) hp
      rw [zd_X1_goToNextOrder_4, nI_pred, if_neg (nI_pos (by omega)), nI_1, zi_in (n := 5) (by omega) (by decide), zi_in (n := 5) (by omega) (by decide), nI_clamp (by omega), nI_clamp (by omega), a1.2, a2.2, cond_true, cond_true]
      unfold zp_p
      by_cases c1 : o p ≤ o (p + 1)
      · rw [if_pos (nI_le c1 (by omega)), if_pos (nI_pos' (by omega)), if_pos c1]
      · rw [if_neg (fun z => c1 ((nI_leI (by omega) (by omega)).mp z)), if_neg c1, zx_m1]
        exact ih u3 u4 u5 (by omega)
  have e0 := zd_X1_goToNextOrder (zv_ev (dp + 1)) g h (nI n)
  have en : nI n - 2 = nI (n - 1) - 1 := by
    have key : ∀ n, n ≤ 5 → 1 ≤ n → nI n - 2 = nI (n - 1) - 1 := by decide +kernel
    exact key n hn h1
  rw [en, piv (n - 1) none none none (by omega)] at e0
  unfold zp_n
  cases hp : zp_p o (n - 1) with
  | none =>
    rw [hp] at e0
    exact ⟨g, fun _ _ => rfl, fun o' h' => (by cases h'), zs_X1_goToNextOrder e0⟩
  | some p =>
    rw [hp] at e0
    have hpl := zp_p_lt _ _ hp
    have hql := zp_q_le (o := o) (p := p) (n - 1)
    have n1 : nI n - 1 = nI (n - 1) := pk_sub (a := n) (b := 1) h1
    dsimp only at e0
    rw [n1, oth (n - 1) p none none (by omega) (by omega), n1, nI_1] at e0
    obtain ⟨g1, f1, o1, r1⟩ := ev_swap (dp := dp) (h := h) hn ho (i := p) (j := zp_q o p (n - 1)) (by omega) (by omega)
    rw [r1] at e0
    simp only [Option.bind_some] at e0
    obtain ⟨g2, f2, o2, r2⟩ := rev 5 (zp_s o p (zp_q o p (n - 1))) g1 (p + 1) (n - 1) (some (.int (nI n))) (some (.int (nI p))) (some (.int (nI (zp_q o p (n - 1))))) (by omega) (by omega) o1 (by omega)
    exact ⟨g2, fun x hx => (f2 x hx).trans (f1 x hx), fun o' h' => (by cases h'; exact o2), zs_X1_goToNextOrder (e0.trans r2)⟩
/-- the rest by an order that is a number -/
def zp_v (T : zT) (X : zX) (c : Nat) : Option Nat := match zp_t T X (zp_d (zT_n T) c) 30 zA_0 with
  | none => none
  | some B => some (za_rn B (zT_n T))
theorem zp_v_lt {T : zT} {X : zX} (hT : zT_ok T) {c v : Nat} (h : zp_v T X c = some v) : v < 100000 := by
  unfold zp_v at h
  split at h
  · cases h
  · cases h; exact za_rn_5 _ hT.2.1
theorem zp_v_some {T : zT} {X : zX} {c : Nat} {B : zA} (h : zp_t T X (zp_d (zT_n T) c) 30 zA_0 = some B) : zp_v T X c = some (za_rn B (zT_n T)) := by unfold zp_v; rw [h]
theorem zp_v_none {T : zT} {X : zX} {c : Nat} (h : zp_t T X (zp_d (zT_n T) c) 30 zA_0 = none) : zp_v T X c = none := by unfold zp_v; rw [h]
theorem zfo_len (rs : Nat → Option Nat) : ∀ l : List Nat, (zfo rs l).length ≤ l.length := by
  intro l
  induction l using zl_snoc with
  | nil => exact Nat.le_refl _
  | append_singleton l c ih =>
    rw [zfo_snoc, List.length_append]
    unfold zad
    split
    · exact Nat.le_trans ih (Nat.le_add_right _ _)
    · split
      · exact Nat.le_trans ih (Nat.le_add_right _ _)
      · rw [List.length_append]; simpa using ih
theorem zfo_b {rs : Nat → Option Nat} (hv : ∀ c v, rs c = some v → v < 100000) (l : List Nat) (w : Nat) (h : w ∈ zfo rs l) : w < 100000 := by
  obtain ⟨c, _, e⟩ := (zfo_mem rs w l).mp h
  exact hv c w e
theorem ztk {L : List Nat} {i : Nat} (h : i < L.length) : L.take (i + 1) = L.take i ++ [L.getD i 0] := by
  rw [List.take_succ_eq_append_getElem h, List.getD_eq_getElem?_getD, List.getElem?_eq_getElem h]
  rfl
theorem zp_d_lt {n c k : Nat} (h : 1 ≤ n) : zp_d n c k < n := Nat.mod_lt _ (by omega)
theorem ev_tryAll {dp : Nat} {g : Nat → Nat → Int32} {h : Nat → Nat → Int64} {T : zT} {X : zX} {A : zA} (hC : zC 27 g T X A) : ∃ g', zF 27 43 g g' ∧ g' 40 0 = nI ((zp_L (zT_n T)).countP fun c => (zp_v T X c).isSome) ∧ zpN g' (zfo (zp_v T X) (zp_L (zT_n T))) ∧ zv_ev (dp + 7) 9 [.ref 40, .ref 27] zS0 (g, h) = zo_v (g', h) := by
  have hT := hC.1
  have h5 := hT.2.1
  have hn1 := hT.1
  have c0 : g 9 0 = nI (zT_n T) := hC.2.2.2.1.1
  obtain ⟨⟨L1, L2⟩, L3⟩ := zp_L_0 (zT_n T) (by omega) hn1
  have hLk := zp_L_k (zT_n T) (by omega) hn1
  generalize zp_L (zT_n T) = L at L1 L2 L3 hLk ⊢
  have hst := zd_X1_tryAll (zv_ev (dp + 6)) g h
  rw [c0, if_neg (show ¬ (5 : Int32) < nI (zT_n T) from nI_nlt (a := 5) h5 (by decide))] at hst
  obtain ⟨g1, ⟨f1, p1, o1⟩, r1⟩ := zl_up (fun k (s : Nat → Nat → Int32) => zv_m zt_X1_tryAll (zv_ev (dp + 6)) false 29 [some (.ref 40), some (.ref 27), some (.int (nI (zT_n T))), some (.int (nI k))] [] zS0 (s, h)) 5 (fun k s => (∀ x, x ≠ 40 → x ≠ 41 → s x = g x) ∧ (s 40 = zv_w (zv_w (zv_w g 40 0 0) 40 1 0) 40 2 0 40) ∧ ∀ j, j < k → s 41 j = nI j) (by
    rintro k s hk ⟨hf, hp, ho⟩
    have e1 := zd_X1_tryAll_29 (zv_ev (dp + 6)) s h (nI (zT_n T)) (nI k)
    rw [if_neg (zi_ge 5 5 rfl hk (by decide)), zi_in hk (by decide), nI_clamp (by omega), nI_1, cond_true] at e1
    refine ⟨_, ⟨fun x h1 h2 => (zw_cell _ _ _ h2).trans (hf x h1 h2), (zw_cell _ _ _ (by decide)).trans hp, fun j hj => ?_⟩, e1⟩
    by_cases hjk : j = k
    · subst hjk; exact zw_same _ _ _ _
    · rw [zw_other _ _ _ hjk]; exact ho j (by omega)) (zv_w (zv_w (zv_w g 40 0 0) 40 1 0) 40 2 0) ⟨fun x h1 _ => (zw_cell _ _ _ h1).trans ((zw_cell _ _ _ h1).trans (zw_cell _ _ _ h1)), rfl, fun j hj => absurd hj (Nat.not_lt_zero j)⟩
  have e2 := zd_X1_tryAll_29 (zv_ev (dp + 6)) g1 h (nI (zT_n T)) (nI 5)
  rw [if_pos (by decide)] at e2
  have F1 : zF 40 41 g g1 := fun x hx => f1 x (by omega) (by omega)
  have hvb : ∀ c v, zp_v T X c = some v → v < 100000 := fun c v e => zp_v_lt hT e
  rcases zl_ex (fun i (s : Nat → Nat → Int32) => zv_m zt_X1_tryAll (zv_ev (dp + 6)) false 49 [some (.ref 40), some (.ref 27), some (.int (nI (zT_n T))), some (.int (nI i))] [] zS0 (s, h)) L.length (fun i s => i < L.length ∧ zF 27 43 g s ∧ (∃ B, zC 27 s T X B) ∧ s 40 0 = nI ((L.take i).countP fun c => (zp_v T X c).isSome) ∧ zpN s (zfo (zp_v T X) (L.take i)) ∧ ∀ k, k < zT_n T → s 41 k = nI (zp_d (zT_n T) (L.getD i 0) k)) (fun z => ∃ g', zF 27 43 g g' ∧ g' 40 0 = nI (L.countP fun c => (zp_v T X c).isSome) ∧ zpN g' (zfo (zp_v T X) L) ∧ z = zv_rv zS0 (g', h)) (by
    rintro i s hi ⟨-, Fs, ⟨B, Cs⟩, s0, sN, sO⟩
    have hk := hLk i hi
    have ho : ∀ k, k < zT_n T → zp_d (zT_n T) (L.getD i 0) k < zT_n T ∧ s 41 k = nI (zp_d (zT_n T) (L.getD i 0) k) := fun k hk => ⟨zp_d_lt hn1, sO k hk⟩
    obtain ⟨g3, F3, ⟨B3, C3⟩, C3', r3⟩ := ev_restsInOrder (dp := dp) (h := h) Cs ho
    have F3' : zF 27 43 g g3 := fun x hx => (F3 x (by omega)).trans (Fs x (by omega))
    have hlen := zfo_len (zp_v T X) (L.take i)
    rw [List.length_take] at hlen
    have e3 := zd_X1_tryAll_49 (zv_ev (dp + 6)) s h (nI (zT_n T)) (nI i)
    rw [if_neg (zi_ge 120 120 rfl (by omega) (by decide)), r3] at e3
    simp only [Option.bind_some] at e3
    -- behind the note
    have tail : ∀ (t : Nat → Nat → Int32), zF 27 43 g t → (∃ B, zC 27 t T X B) → t 41 = s 41 → t 40 0 = nI ((L.take (i + 1)).countP fun c => (zp_v T X c).isSome) → zpN t (zfo (zp_v T X) (L.take (i + 1))) → zv_m zt_X1_tryAll (zv_ev (dp + 6)) false 49 [some (.ref 40), some (.ref 27), some (.int (nI (zT_n T))), some (.int (nI i))] [] zS0 (s, h) = ((zv_ev (dp + 6) 14 [.ref 40, .int (nI (zT_n T))] zS0 (t, h)).bind fun p4 => (if p4.1.1 = 0 then zv_rv zS0 p4.2 else zv_m zt_X1_tryAll (zv_ev (dp + 6)) false 49 [some (.ref 40), some (.ref 27), some (.int (nI (zT_n T))), some (.int (nI (i + 1)))] [] zS0 p4.2)) → (∃ g', zF 27 43 g g' ∧ g' 40 0 = nI (L.countP fun c => (zp_v T X c).isSome) ∧ zpN g' (zfo (zp_v T X) L) ∧ zv_m zt_X1_tryAll (zv_ev (dp + 6)) false 49 [some (.ref 40), some (.ref 27), some (.int (nI (zT_n T))), some (.int (nI i))] [] zS0 (s, h) = zv_rv zS0 (g', h)) ∨ ∃ s', (i + 1 < L.length ∧ zF 27 43 g s' ∧ (∃ B, zC 27 s' T X B) ∧ s' 40 0 = nI ((L.take (i + 1)).countP fun c => (zp_v T X c).isSome) ∧ zpN s' (zfo (zp_v T X) (L.take (i + 1))) ∧ ∀ k, k < zT_n T → s' 41 k = nI (zp_d (zT_n T) (L.getD (i + 1) 0) k)) ∧ zv_m zt_X1_tryAll (zv_ev (dp + 6)) false 49 [some (.ref 40), some (.ref 27), some (.int (nI (zT_n T))), some (.int (nI i))] [] zS0 (s, h) = zv_m zt_X1_tryAll (zv_ev (dp + 6)) false 49 [some (.ref 40), some (.ref 27), some (.int (nI (zT_n T))), some (.int (nI (i + 1)))] [] zS0 (s', h) := by
      rintro t Ft ⟨Bt, Ct⟩ t41 t0 tN hrow
      obtain ⟨g5, f5, o5, r5⟩ := ev_nextOrder (dp := dp + 4) (g := t) (h := h) hn1 h5 (o := zp_d (zT_n T) (L.getD i 0)) (fun k hk => ⟨zp_d_lt hn1, (congrFun t41 k).trans (sO k hk)⟩)
      rw [r5] at hrow
      simp only [Option.bind_some] at hrow
      have F5 : zF 41 41 t g5 := fun x hx => f5 x (by omega)
      have F5' : zF 27 43 g g5 := fun x hx => (f5 x (by omega)).trans (Ft x (by omega))
      have C5 := zC_F Ct F5 (by decide) (by decide)
      have N5 : zpN g5 (zfo (zp_v T X) (L.take (i + 1))) := by
        unfold zpN
        rw [f5 40 (by decide), f5 42 (by decide)]
        exact tN
      unfold zp_k at hk
      cases hz : zp_n (zT_n T) (zp_d (zT_n T) (L.getD i 0)) with
      | none =>
        rw [hz] at hk hrow
        have hl : i + 1 = L.length := of_decide_eq_true hk
        have htl : L.take (i + 1) = L := by rw [hl, List.take_length]
        rw [htl] at t0 N5
        exact Or.inl ⟨g5, F5', by rw [f5 40 (by decide)]; exact t0, N5, hrow.trans (if_pos rfl)⟩
      | some o' =>
        rw [hz] at hk hrow
        dsimp only at hk
        rw [Bool.and_eq_true, decide_eq_true_eq, List.all_eq_true] at hk
        refine Or.inr ⟨g5, ⟨hk.1, F5', ⟨_, C5⟩, by rw [f5 40 (by decide)]; exact t0, N5, fun k hkn => ?_⟩, hrow.trans (if_neg (by simp))⟩
        have q := hk.2 k (List.mem_range.mpr hkn)
        rw [beq_iff_eq] at q
        rw [← q]
        exact (o5 o' hz k hkn).2
    rw [nI_1] at e3
    cases hz : zp_t T X (zp_d (zT_n T) (L.getD i 0)) 30 zA_0 with
    | none =>
      rw [hz] at e3
      have hv := zp_v_none hz
      refine tail g3 F3' ⟨_, C3⟩ (F3 41 (by decide)) ?_ ?_ (e3.trans (if_pos rfl))
      · rw [F3 40 (by decide), s0, ztk hi, List.countP_append, List.countP_cons, List.countP_nil, hv]
        rfl
      · rw [ztk hi, zfo_snoc, hv]
        unfold zpN
        rw [F3 40 (by decide), F3 42 (by decide)]
        exact sN
    | some Bz =>
      rw [hz] at e3
      have hv := zp_v_some hz
      have Cz := C3' Bz hz
      have F4 : zF 40 40 g3 (zv_w g3 40 0 (g3 40 0 + 1)) := zF_w _ _ _ (by decide) (by decide)
      have C4 := zC_F Cz F4 (by decide) (by decide)
      have hrl := za_rn_5 Bz h5
      have e4 := e3.trans (if_neg (by simp))
      rw [ev_restNumber (dp := dp + 3) (Dm := (zv_w g3 40 0 (g3 40 0 + 1), h)) C4] at e4
      simp only [Option.bind_some] at e4
      have N4 : zpN (zv_w g3 40 0 (g3 40 0 + 1)) (zfo (zp_v T X) (L.take i)) := by
        unfold zpN
        rw [zw_other _ _ _ (by decide), zw_other _ _ _ (by decide), zw_cell _ _ _ (by decide), F3 40 (by decide), F3 42 (by decide)]
        exact sN
      obtain ⟨g6, f6, p6, N6, r6⟩ := ev_noteP (dp := dp + 5) (h := h) N4 (by omega) (zfo_b hvb _) hrl
      rw [r6] at e4
      simp only [Option.bind_some] at e4
      have F6 : zF 40 42 (zv_w g3 40 0 (g3 40 0 + 1)) g6 := fun x hx => f6 x (by omega) (by omega)
      refine tail g6 (fun x hx => (f6 x (by omega) (by omega)).trans ((F4 x (by omega)).trans (F3' x (by omega)))) ⟨_, zC_F C4 F6 (by decide) (by decide)⟩ ((f6 41 (by decide) (by decide)).trans ((zw_cell _ _ _ (by decide)).trans (F3 41 (by decide)))) ?_ ?_ e4
      · rw [p6, zw_same, F3 40 (by decide), s0, nI_1, ztk hi, List.countP_append, List.countP_cons, List.countP_nil, hv]
        rfl
      · rw [ztk hi, zfo_snoc, hv]
        exact N6) g1 ⟨L1, fun x hx => f1 x (by omega) (by omega), ⟨_, zC_F hC F1 (by decide) (by decide)⟩, by rw [p1, zw_other _ _ _ (by decide), zw_other _ _ _ (by decide), zw_same]; rfl, ⟨by rw [p1, zw_other _ _ _ (by decide), zw_same]; rfl, fun j hj => absurd hj (Nat.not_lt_zero j), fun z => absurd rfl z⟩, fun k hk => by rw [L3 k hk]; exact o1 k (by omega)⟩ with ⟨g', q1, q2, q3, q4⟩ | ⟨g', q1, _⟩
  · exact ⟨g', q1, q2, q3, zs_X1_tryAll (hst.trans (r1.trans (e2.trans q4)))⟩
  · exact absurd q1.1 (Nat.lt_irrefl _)
