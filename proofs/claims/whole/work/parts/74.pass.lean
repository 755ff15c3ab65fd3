/-! ===== passes by an order ===== -/
def zp_a (T : zT) (X : zX) (o : Nat → Nat) (A : zA) : Nat → zA × Bool
  | 0 => (A, false)
  | k + 1 => (za_st T X (zp_a T X o A k).1 (o k), (zp_a T X o A k).2 || za_ch T X (zp_a T X o A k).1 (o k))
def zp_t (T : zT) (X : zX) (o : Nat → Nat) : Nat → zA → Option zA
  | 0, _ => none
  | f + 1, A => if (zp_a T X o A (zT_n T)).2 = true then zp_t T X o f (zp_a T X o A (zT_n T)).1 else some (zp_a T X o A (zT_n T)).1
def zp_i (T : zT) (X : zX) (o : Nat → Nat) : Nat → zA
  | 0 => zA_0
  | i + 1 => (zp_a T X o (zp_i T X o i) (zT_n T)).1
def zp_f (T : zT) (X : zX) (o : Nat → Nat) (i : Nat) : Bool := (zp_a T X o (zp_i T X o i) (zT_n T)).2
theorem zp_a_W {T : zT} {X : zX} {o : Nat → Nat} {A : zA} (hT : zT_ok T) (hW : za_W T A) (ho : ∀ k, k < zT_n T → o k < zT_n T) : ∀ k, k ≤ zT_n T → za_W T (zp_a T X o A k).1 := by
  intro k
  induction k with
  | zero => intro _; exact hW
  | succ k ih => intro hk; exact za_st_W hT (ih (by omega)) (ho k (by omega))
theorem zp_i_W {T : zT} {X : zX} {o : Nat → Nat} (hT : zT_ok T) (ho : ∀ k, k < zT_n T → o k < zT_n T) : ∀ i, za_W T (zp_i T X o i) := by
  intro i
  induction i with
  | zero => exact zA_0_W T
  | succ i ih => exact zp_a_W hT ih ho _ (Nat.le_refl _)
theorem zp_i_per {T : zT} {X : zX} {o : Nat → Nat} {m p : Nat} (h : zp_i T X o p = zp_i T X o m) : ∀ i, zp_i T X o (p + i) = zp_i T X o (m + i) := by
  intro i
  induction i with
  | zero => exact h
  | succ i ih =>
    show (zp_a T X o (zp_i T X o (p + i)) (zT_n T)).1 = (zp_a T X o (zp_i T X o (m + i)) (zT_n T)).1
    rw [ih]
theorem zp_never {T : zT} {X : zX} {o : Nat → Nat} {m p : Nat} (hm : m < p) (h : zp_i T X o p = zp_i T X o m) (hf : ∀ j, j < p → zp_f T X o j = true) : ∀ j, zp_f T X o j = true := by
  intro j
  induction j using Nat.strongRecOn with
  | ind j ih =>
    by_cases hj : j < p
    · exact hf j hj
    · have e := zp_i_per h (j - p)
      have h1 := ih (m + (j - p)) (by omega)
      unfold zp_f at h1 ⊢
      rw [← e, show p + (j - p) = j by omega] at h1
      exact h1
theorem zp_t_none {T : zT} {X : zX} {o : Nat → Nat} : ∀ f i, (∀ j, i ≤ j → zp_f T X o j = true) → zp_t T X o f (zp_i T X o i) = none := by
  intro f
  induction f with
  | zero => intro i _; rfl
  | succ f ih =>
    intro i h
    show (if zp_f T X o i = true then zp_t T X o f (zp_i T X o (i + 1)) else _) = none
    rw [if_pos (h i (Nat.le_refl _))]
    exact ih (i + 1) (fun j hj => h j (by omega))
theorem zp_t_go {T : zT} {X : zX} {o : Nat → Nat} {i : Nat} (hi : i ≤ 30) (h : ∀ j, j < i → zp_f T X o j = true) : zp_t T X o 30 zA_0 = zp_t T X o (30 - i) (zp_i T X o i) := by
  induction i with
  | zero => rfl
  | succ i ih =>
    rw [ih (by omega) (fun j hj => h j (by omega)), show 30 - i = (30 - (i + 1)) + 1 by omega]
    show (if zp_f T X o i = true then zp_t T X o (30 - (i + 1)) (zp_i T X o (i + 1)) else _) = _
    rw [if_pos (h i (by omega))]
/-! the class -/
theorem ev_isMarked {dp : Nat} {g : Nat → Nat → Int32} {h : Nat → Nat → Int64} {T : zT} {X : zX} {A B : zA} (hC : zC 27 g T X A) (hB : za_W T B) (hm : ∀ j, j < 5 → g 43 j = nI (B j 0 + 2048 * B j 1)) : ∃ v, (v = 1 ∧ A = B ∨ v = 0 ∧ A ≠ B) ∧ zv_ev (dp + 1) 12 [.ref 40, .ref 27] zS0 (g, h) = zo_i v (g, h) := by
  have ca : ∀ j, j < 5 → g 31 j = nI (A j 0 + 2048 * A j 1) := hC.2.2.2.2.1.2.2.1
  rcases zl_ex (σ := Unit) (fun k _ => zv_m zt_X1_isMarked (zv_ev dp) true 2 [some (.ref 40), some (.ref 27), some (.int (nI k))] [] zS0 (g, h)) 5 (fun k _ => ∀ j, j < k → g 31 j = g 43 j) (fun z => A ≠ B ∧ z = zv_ri 0 zS0 (g, h)) (by
    intro k _ hk hI
    have e1 := zd_X1_isMarked_2 (zv_ev dp) g h (nI k)
    rw [if_neg (zi_ge 5 5 rfl hk (by decide)), zi_in hk (by decide), nI_clamp (by omega), nI_1] at e1
    simp only [cond_true] at e1
    by_cases q : g 31 k = g 43 k
    · rw [if_pos q] at e1
      refine Or.inr ⟨(), fun j hj => ?_, e1⟩
      by_cases hjk : j = k
      · subst hjk; exact q
      · exact hI j (by omega)
    · rw [if_neg q] at e1
      exact Or.inl ⟨fun z => q (by rw [ca k hk, hm k hk, z]), e1⟩) () (fun j hj => absurd hj (Nat.not_lt_zero j)) with ⟨q1, q2⟩ | ⟨-, q1, q2⟩
  · exact ⟨0, Or.inr ⟨rfl, q1⟩, zs_X1_isMarked ((zd_X1_isMarked _ g h).trans q2)⟩
  · refine ⟨1, Or.inl ⟨rfl, (zA_code hC.1 hC.2.2.1 hB).mp (fun j hj => by rw [← ca j hj, ← hm j hj]; exact q1 j hj)⟩, zs_X1_isMarked ((zd_X1_isMarked _ g h).trans (q2.trans ?_))⟩
    rw [zd_X1_isMarked_2, if_pos (zi_le 5 5 rfl (by decide) (by decide))]
/-- what the passes change -/
def zFp (g g' : Nat → Nat → Int32) : Prop := ∀ x, x < 27 ∨ (37 < x ∧ x ≠ 43) → g' x = g x
theorem zFp_trans {g1 g2 g3 : Nat → Nat → Int32} (h1 : zFp g1 g2) (h2 : zFp g2 g3) : zFp g1 g3 := fun x hx => (h2 x hx).trans (h1 x hx)
theorem zFp_of {g g' : Nat → Nat → Int32} (h : zF 27 37 g g') : zFp g g' := fun x hx => h x (by omega)
theorem ev_restsInOrder {dp : Nat} {g : Nat → Nat → Int32} {h : Nat → Nat → Int64} {T : zT} {X : zX} {A : zA} {o : Nat → Nat} (hC : zC 27 g T X A) (ho : ∀ k, k < zT_n T → o k < zT_n T ∧ g 41 k = nI (o k)) : ∃ g', zFp g g' ∧ (∃ B, zC 27 g' T X B) ∧ (∀ B, zp_t T X o 30 zA_0 = some B → zC 27 g' T X B) ∧ zv_ev (dp + 6) 10 [.ref 40, .ref 27, .int (nI (zT_n T))] zS0 (g, h) = zo_i (if (zp_t T X o 30 zA_0).isSome = true then 1 else 0) (g', h) := by
  have hT := hC.1
  have h5 := hT.2.1
  have ho1 : ∀ k, k < zT_n T → o k < zT_n T := fun k hk => (ho k hk).1
  have hWi := zp_i_W (X := X) hT ho1
  obtain ⟨g1, f1, n1, r1⟩ := ev_forgetChoices_28 (dp := dp + 3) (g, h)
  dsimp only at f1 r1
  have C1 : zC 27 g1 T X zA_0 := zC_0 hC f1 n1 (by decide)
  have mk : ∀ (s : Nat → Nat → Int32) (B : zA), zC 27 s T X B → zv_ev (dp + 5) 11 [.ref 40, .ref 27] zS0 (s, h) = zo_v (zv_cp s 31 43 0 0 5, h) ∧ zFp s (zv_cp s 31 43 0 0 5) ∧ zC 27 (zv_cp s 31 43 0 0 5) T X B ∧ ∀ j, j < 5 → zv_cp s 31 43 0 0 5 43 j = nI (B j 0 + 2048 * B j 1) := by
    intro s B hCs
    have F : zF 43 43 s (zv_cp s 31 43 0 0 5) := fun x hx => zcp_cell _ _ (by omega)
    exact ⟨zs_X1_mark (zd_X1_mark _ s h), fun x hx => zcp_cell _ _ (by omega), zC_F hCs F (by decide) (by decide), fun j hj => (zcp_in s 31 43 hj).trans (hCs.2.2.2.2.1.2.2.1 j hj)⟩
  obtain ⟨r2, F2, C2, M2⟩ := mk g1 zA_0 C1
  have hst := zd_X1_restsInOrder (zv_ev (dp + 5)) g h (nI (zT_n T))
  rw [r1] at hst
  simp only [Option.bind_some] at hst
  rw [r2] at hst
  simp only [Option.bind_some] at hst
  have F1 : zFp g g1 := fun x hx => f1 x (by omega)
  rcases zl_ex (σ := (Nat → Nat → Int32) × Int32 × Nat × Option Value × Option Value) (fun i s => zv_m zt_X1_restsInOrder (zv_ev (dp + 5)) true 17 [some (.ref 40), some (.ref 27), some (.int (nI (zT_n T))), some (.int s.2.1), some (.int (nI (i + 1))), s.2.2.2.1, s.2.2.2.2] [] zS0 (s.1, h)) 30 (fun i s => zFp g s.1 ∧ zC 27 s.1 T X (zp_i T X o i) ∧ (∀ j, j < i → zp_f T X o j = true) ∧ s.2.2.1 ≤ i ∧ ∀ j, j < 5 → s.1 43 j = nI (zp_i T X o s.2.2.1 j 0 + 2048 * zp_i T X o s.2.2.1 j 1)) (fun z => ∃ g', zFp g g' ∧ (∃ B, zC 27 g' T X B) ∧ (∀ B, zp_t T X o 30 zA_0 = some B → zC 27 g' T X B) ∧ z = zv_ri (if (zp_t T X o 30 zA_0).isSome = true then 1 else 0) zS0 (g', h)) (by
    rintro i ⟨s, at_, m, u5, u6⟩ hi ⟨Fs, Cs, hfl, hm, hM⟩
    dsimp only at Fs Cs hm hM
    have e1 := zd_X1_restsInOrder_17 (zv_ev (dp + 5)) s h (nI (zT_n T)) at_ (nI (i + 1)) u5 u6
    rw [if_neg (show ¬ (30 : Int32) < nI (i + 1) from nI_nlt (a := 30) (by omega) (by decide))] at e1
    obtain ⟨g3, ⟨F3, C3⟩, q3⟩ := zl_up (fun k (t : Nat → Nat → Int32) => zv_m zt_X1_restsInOrder (zv_ev (dp + 5)) true 30 [some (.ref 40), some (.ref 27), some (.int (nI (zT_n T))), some (.int at_), some (.int (nI (i + 1))), some (.int (if (zp_a T X o (zp_i T X o i) k).2 = true then 1 else 0)), some (.int (nI k))] [] zS0 (t, h)) (zT_n T) (fun k t => zF 27 37 s t ∧ zC 27 t T X (zp_a T X o (zp_i T X o i) k).1) (by
      rintro k t hk ⟨Ft, Ct⟩
      have e2 := zd_X1_restsInOrder_30 (zv_ev (dp + 5)) t h (nI (zT_n T)) at_ (nI (i + 1)) (if (zp_a T X o (zp_i T X o i) k).2 = true then 1 else 0) (nI k)
      have c41 : t 41 k = nI (o k) := (congrFun ((Ft 41 (by decide)).trans (Fs 41 (by decide))) k).trans (ho k hk).2
      rw [if_neg (nI_ge hk (by omega)), if_neg (zi_ge 5 5 rfl (by omega) (by decide)), zi_in (n := 5) (by omega) (by decide), nI_clamp (by omega), c41, nI_1, cond_true] at e2
      obtain ⟨t2, f2, D2, r3⟩ := ev_stepOne_27 (dp := dp) (Dm := (t, h)) Ct (ho1 k hk)
      dsimp only at f2 r3
      rw [r3] at e2
      simp only [Option.bind_some] at e2
      refine ⟨t2, ⟨zF_trans Ft (zF_mono f2 (by decide) (by decide)), D2⟩, e2.trans ?_⟩
      have ev : (if (zp_a T X o (zp_i T X o i) k).2 = true then (1 : Int32) else 0) ||| (if za_ch T X (zp_a T X o (zp_i T X o i) k).1 (o k) = true then 1 else 0) = if (zp_a T X o (zp_i T X o i) (k + 1)).2 = true then 1 else 0 := by
        show _ = if ((zp_a T X o (zp_i T X o i) k).2 || za_ch T X (zp_a T X o (zp_i T X o i) k).1 (o k)) = true then (1 : Int32) else 0
        cases (zp_a T X o (zp_i T X o i) k).2 <;> cases za_ch T X (zp_a T X o (zp_i T X o i) k).1 (o k) <;> rfl
      rw [ev]) s ⟨zF_refl _ _ _, Cs⟩
    have Fg3 : zFp g g3 := zFp_trans Fs (zFp_of F3)
    have C3' : zC 27 g3 T X (zp_i T X o (i + 1)) := C3
    have e3 := zd_X1_restsInOrder_30 (zv_ev (dp + 5)) g3 h (nI (zT_n T)) at_ (nI (i + 1)) (if (zp_a T X o (zp_i T X o i) (zT_n T)).2 = true then 1 else 0) (nI (zT_n T))
    rw [if_pos (nI_le (Nat.le_refl _) (by omega))] at e3
    have e4 := e1.trans (q3.trans e3)
    have hgo := zp_t_go (T := T) (X := X) (o := o) (i := i) (by omega) hfl
    cases hfi : zp_f T X o i with
    | false =>
      have hfi' : (zp_a T X o (zp_i T X o i) (zT_n T)).2 = false := hfi
      rw [hfi', if_pos (by rfl)] at e4
      have hz : zp_t T X o 30 zA_0 = some (zp_i T X o (i + 1)) := by
        rw [hgo, show 30 - i = (29 - i) + 1 by omega]
        show (if zp_f T X o i = true then _ else some (zp_i T X o (i + 1))) = _
        rw [hfi, if_neg (by decide)]
      refine Or.inl ⟨g3, Fg3, ⟨_, C3'⟩, fun B hB => ?_, ?_⟩
      · rw [hz] at hB; cases hB; exact C3'
      · rw [hz]; exact e4
    | true =>
      have hfi' : (zp_a T X o (zp_i T X o i) (zT_n T)).2 = true := hfi
      rw [hfi', if_pos (show true = true from rfl), if_neg (show ¬ (1 : Int32) = 0 by decide)] at e4
      have hfl' : ∀ j, j < i + 1 → zp_f T X o j = true := fun j hj => by
        by_cases hji : j = i
        · subst hji; exact hfi
        · exact hfl j (by omega)
      obtain ⟨v, hv, rv⟩ := ev_isMarked (dp := dp + 4) (h := h) C3' (hWi m) (fun j hj => (congrFun (F3 43 (by decide)) j).trans (hM j hj))
      rw [rv] at e4
      simp only [Option.bind_some] at e4
      rcases hv with ⟨rfl, hv⟩ | ⟨rfl, hv⟩
      · rw [if_neg (show ¬ (1 : Int32) = 0 by decide)] at e4
        have hz : zp_t T X o 30 zA_0 = none := by
          rw [hgo]
          exact zp_t_none _ _ (fun j _ => zp_never (m := m) (p := i + 1) (by omega) hv hfl' j)
        refine Or.inl ⟨g3, Fg3, ⟨_, C3'⟩, fun B hB => ?_, ?_⟩
        · rw [hz] at hB; cases hB
        · rw [hz]; exact e4
      · rw [if_pos rfl] at e4
        by_cases hat : nI (i + 1) = at_
        · obtain ⟨r5, F5, C5, M5⟩ := mk g3 _ C3'
          rw [if_pos hat, r5, nI_1] at e4
          exact Or.inr ⟨(_, _, i + 1, _, _), ⟨zFp_trans Fg3 F5, C5, hfl', Nat.le_refl _, M5⟩, e4⟩
        · rw [if_neg hat, nI_1] at e4
          exact Or.inr ⟨(g3, at_, m, _, _), ⟨Fg3, C3', hfl', by dsimp only; omega, fun j hj => (congrFun (F3 43 (by decide)) j).trans (hM j hj)⟩, e4⟩) (zv_cp g1 31 43 0 0 5, 1, 0, none, none) ⟨zFp_trans F1 F2, C2, fun j hj => absurd hj (Nat.not_lt_zero j), Nat.le_refl _, M2⟩ with ⟨g', q1, q2, q3, q4⟩ | ⟨⟨g', at_, m, u5, u6⟩, ⟨q1, q2, q3, q4, q5⟩, q6⟩
  · exact ⟨g', q1, q2, q3, zs_X1_restsInOrder (hst.trans q4)⟩
  · dsimp only at q1 q2 q6
    have hz : zp_t T X o 30 zA_0 = none := zp_t_go (T := T) (X := X) (o := o) (i := 30) (Nat.le_refl _) q3
    refine ⟨g', q1, ⟨_, q2⟩, fun B hB => (by rw [hz] at hB; cases hB), zs_X1_restsInOrder (hst.trans (q6.trans ?_))⟩
    show zv_m zt_X1_restsInOrder (zv_ev (dp + 5)) true 17 [_, _, _, _, some (.int (nI 31)), _, _] _ _ _ = _
    rw [zd_X1_restsInOrder_17, if_pos (by decide), hz]
    rfl
