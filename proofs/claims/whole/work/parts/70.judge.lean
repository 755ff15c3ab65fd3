/-! ===== statements ===== -/
noncomputable def zy (T : zT) (X : zX) (A : zA) (kd a b c : Nat) : Option (zX × zA) :=
  if b ≠ 0 then none
  else if kd = 1 then (if a < zT_n T ∧ c = 0 then some (X, za_st T X A a) else none)
  else if kd = 2 then (if a < zT_m T ∧ c = 0 then some (zX_su X (zX_up X ^^^ 2 ^ a), A) else none)
  else if kd = 3 then (if a < zT_m T ∧ c < 6 then some (zX_sw X a c, A) else none)
  else if kd = 4 then (if a < zT_n T ∧ c = 0 then some (zX_se X (zX_ex X ^^^ 2 ^ a), zA_ad X A a) else none)
  else if kd = 5 then (if a < zT_n T ∧ ((c = 9 ∧ A a 0 = 0) ∨ (c ≠ 9 ∧ A a 0 ≠ 0 ∧ zc_e (A a 0) = c)) then some (X, A) else none)
  else if kd = 6 then (if a < zT_n T ∧ ((c = 9 ∧ za_wk T X A 6 a 0 = none) ∨ (c ≠ 9 ∧ ∃ p, za_wk T X A 6 a 0 = some p ∧ p.1 = c)) then some (X, A) else none)
  else if kd = 7 then (if a = 0 ∧ c < 2 ∧ ((zo T X A).1 = 0 ↔ c = 1) then some (X, A) else none)
  else none
theorem zy_ok {T : zT} {X : zX} {A : zA} {kd a b c : Nat} {p : zX × zA} (hT : zT_ok T) (hX : zX_ok T X) (hW : za_W T A) (h : zy T X A kd a b c = some p) : zX_ok T p.1 ∧ za_W T p.2 := by
  unfold zy at h
  split at h
  · cases h
  split at h
  · split at h
    · rename_i q; cases h; exact ⟨hX, za_st_W hT hW q.1⟩
    · cases h
  split at h
  · split at h
    · rename_i q; cases h; exact ⟨zX_su_ok hX (Nat.xor_lt_two_pow hX.2.2.2.2.1 (zp_lt q.1)), hW⟩
    · cases h
  split at h
  · split at h
    · rename_i q; cases h; exact ⟨zX_sw_ok hX (by omega), hW⟩
    · cases h
  split at h
  · split at h
    · rename_i q; cases h; exact ⟨zX_se_ok hX (Nat.xor_lt_two_pow hX.2.2.2.2.2.1 (zp_lt q.1)), zA_ad_W hW _⟩
    · cases h
  split at h
  · split at h
    · cases h; exact ⟨hX, hW⟩
    · cases h
  split at h
  · split at h
    · cases h; exact ⟨hX, hW⟩
    · cases h
  split at h
  · split at h
    · cases h; exact ⟨hX, hW⟩
    · cases h
  · cases h
theorem zy_ar {s : Nat} (hs : s < 10000) : nI s / 1000 = nI (s / 1000) ∧ (nI s / 100) - (nI s / 100) / 10 * 10 = nI (s / 100 % 10) ∧ (nI s / 10) - (nI s / 10) / 10 * 10 = nI (s / 10 % 10) ∧ nI s - nI s / 10 * 10 = nI (s % 10) := by
  rw [show (1000 : Int32) = nI 1000 from rfl, show (100 : Int32) = nI 100 from rfl, show (10 : Int32) = nI 10 from rfl, pk_div (d := 1000) (by omega) (by decide) (by decide), pk_div (d := 100) (by omega) (by decide) (by decide), pk_div (a := s) (d := 10) (by omega) (by decide) (by decide), pk_rem (a := s / 100) (by omega) (by decide) (by decide), pk_rem (a := s / 10) (by omega) (by decide) (by decide)]
  have := pk_rem (a := s) (d := 10) (by omega) (by decide) (by decide)
  rw [pk_div (a := s) (d := 10) (by omega) (by decide) (by decide)] at this
  exact ⟨rfl, rfl, rfl, this⟩
/-- what a trial says to a statement -/
def zyC (g : Nat → Nat → Int32) (h : Nat → Nat → Int64) (T : zT) (X : zX) (A : zA) (kd a b c : Nat) (r : Option zv_O) : Prop := ∃ g', zF 27 43 g g' ∧ r = zv_ri (if (zy T X A kd a b c).isSome = true then 1 else 0) zS0 (g', h) ∧ ∀ p, zy T X A kd a b c = some p → zC 27 g' T p.1 p.2
theorem zyC_no {g : Nat → Nat → Int32} {h : Nat → Nat → Int64} {T : zT} {X : zX} {A : zA} {kd a b c : Nat} {r : Option zv_O} (hz : zy T X A kd a b c = none) (g' : Nat → Nat → Int32) (hF : zF 27 43 g g') (hr : r = zv_ri 0 zS0 (g', h)) : zyC g h T X A kd a b c r := ⟨g', hF, by rw [hz]; exact hr, fun p hp => by rw [hz] at hp; cases hp⟩
theorem zyC_yes {g : Nat → Nat → Int32} {h : Nat → Nat → Int64} {T : zT} {X : zX} {A : zA} {kd a b c : Nat} {r : Option zv_O} (q : zX × zA) (hz : zy T X A kd a b c = some q) (g' : Nat → Nat → Int32) (hF : zF 27 43 g g') (hC : zC 27 g' T q.1 q.2) (hr : r = zv_ri 1 zS0 (g', h)) : zyC g h T X A kd a b c r := ⟨g', hF, by rw [hz]; exact hr, fun p hp => by rw [hz] at hp; cases hp; exact hC⟩
theorem ev_holds {dp : Nat} {g : Nat → Nat → Int32} {h : Nat → Nat → Int64} {T : zT} {X : zX} {A : zA} (hC : zC 27 g T X A) {s : Nat} (hs : s < 10000) : zyC g h T X A (s / 1000) (s / 100 % 10) (s / 10 % 10) (s % 10) (zv_m zt_X8_holds (zv_ev (dp + 7)) true 0 [some (.ref 0), some (.int (nI s)), none, none, none, none] [] zS0 (g, h)) := by
  have hT := hC.1
  have h5 := hT.2.1
  have h4 := hT.2.2.1
  have c0 : g 9 0 = nI (zT_n T) := hC.2.2.2.1.1
  have c1 : g 9 1 = nI (zT_m T) := hC.2.2.2.1.2.1
  obtain ⟨a1, a2, a3, a4⟩ := zy_ar hs
  have hst := zd_X8_holds (zv_ev (dp + 7)) g h (nI s)
  rw [a1, a2, a3, a4] at hst
  rw [hst]
  have l1 : s / 1000 < 10 := by omega
  have l2 : s / 100 % 10 < 10 := by omega
  have l3 : s / 10 % 10 < 10 := by omega
  have l4 : s % 10 < 10 := by omega
  clear hst a1 a2 a3 a4
  generalize s / 1000 = kd at l1 ⊢
  generalize s / 100 % 10 = a at l2 ⊢
  generalize s / 10 % 10 = b at l3 ⊢
  generalize s % 10 = c at l4 ⊢
  by_cases hb' : ¬ b = 0
  · have hb := hb'
    rw [if_neg (fun z => hb ((zi_0 (by omega)).mp z))]
    exact zyC_no (by simp [zy, hb]) g (zF_refl _ _ _) rfl
  have hb := Classical.not_not.mp hb'
  subst hb
  rw [if_pos (show nI 0 = 0 from rfl)]
  have hR : zv_ev (dp + 7) 22 [.ref 9, .int (nI a)] zS0 (g, h) = zo_i (if a < zT_n T then 1 else 0) (g, h) := by
    rw [ev_hasRouter (g, h) (nI a) c0 h5]
    by_cases q : a < zT_n T
    · rw [zi_in q (by omega), if_pos q]; rfl
    · rw [zi_inf (by omega) (by omega), if_neg q]; rfl
  have hR' : zv_ev (dp + 6) 22 [.ref 9, .int (nI a)] zS0 (g, h) = zo_i (if a < zT_n T then 1 else 0) (g, h) := by
    rw [ev_hasRouter (g, h) (nI a) c0 h5]
    by_cases q : a < zT_n T
    · rw [zi_in q (by omega), if_pos q]; rfl
    · rw [zi_inf (by omega) (by omega), if_neg q]; rfl
  have hE : ∀ (d e : Nat), e < 10 → zv_ev (d + 1) 23 [.ref 9, .int (nI e)] zS0 (g, h) = zo_i (if e < zT_m T then 1 else 0) (g, h) := by
    intro d e he
    rw [ev_hasExit (g, h) (nI e) c1 h4]
    by_cases q : e < zT_m T
    · rw [zi_in q (by omega), if_pos q]; rfl
    · rw [zi_inf (by omega) (by omega), if_neg q]; rfl
  have cA : zv_ev (dp + 7) 126 [.ref 0, .int (nI a), .int (nI c)] zS0 (g, h) = zo_i (if a < zT_n T ∧ (c < zT_m T ∨ c = 9) then 1 else 0) (g, h) := by
    refine zs_X8_canBeAnswer ((zd_X8_canBeAnswer _ g h _ _).trans ?_)
    rw [hR']
    simp only [Option.bind_some]
    rw [hE (dp + 5) c l4]
    simp only [Option.bind_some]
    by_cases q1 : a < zT_n T
    · rw [if_pos q1, if_neg (by decide)]
      by_cases q2 : c < zT_m T
      · rw [if_pos q2, if_neg (by decide), if_pos ⟨q1, Or.inl q2⟩]
      · rw [if_neg q2, if_pos rfl]
        by_cases q3 : c = 9
        · rw [if_pos ((zi_eqc 9 9 rfl (by omega) (by decide)).mpr q3), if_pos ⟨q1, Or.inr q3⟩]
        · rw [if_neg (fun z => q3 ((zi_eqc 9 9 rfl (by omega) (by decide)).mp z)), if_neg (fun z => z.2.elim q2 q3)]
    · rw [if_neg q1, if_pos rfl, if_neg (fun z => q1 z.1)]
  have iE : ∀ (x : Int32) (D : zv_D), zv_ev (dp + 7) 127 [.int x, .int (nI c)] zS0 D = zo_i (if (c = 9 ∧ x = -1) ∨ (c ≠ 9 ∧ x = nI c) then 1 else 0) D := by
    intro x D
    refine zs_X8_isExit ((zd_X8_isExit _ D.1 D.2 _ _).trans ?_)
    by_cases q3 : c = 9
    · rw [if_pos ((zi_eqc 9 9 rfl (by omega) (by decide)).mpr q3)]
      by_cases q4 : x = -1
      · rw [if_pos q4, if_pos (Or.inl ⟨q3, q4⟩)]
      · rw [if_neg q4, if_neg (fun z => z.elim (fun y => q4 y.2) (fun y => y.1 q3))]
    · rw [if_neg (fun z => q3 ((zi_eqc 9 9 rfl (by omega) (by decide)).mp z))]
      by_cases q4 : x = nI c
      · rw [if_pos q4, if_pos (Or.inr ⟨q3, q4⟩)]
      · rw [if_neg q4, if_neg (fun z => z.elim (fun y => q3 y.1) (fun y => q4 y.2))]
  have c00 : (nI c = 0) ↔ c = 0 := zi_0 (by omega)
  have hk : kd = 0 ∨ kd = 1 ∨ kd = 2 ∨ kd = 3 ∨ kd = 4 ∨ kd = 5 ∨ kd = 6 ∨ kd = 7 ∨ kd = 8 ∨ kd = 9 := by omega
  have em : A a 0 ≠ 0 → zc_e (A a 0) < zT_m T := fun h0 => by
    rcases hC.2.2.1.1 a 0 with z | z
    · exact absurd z h0
    · exact z.2.2.1
  rcases hk with rfl | rfl | rfl | rfl | rfl | rfl | rfl | rfl | rfl | rfl
  · exact zyC_no (by simp [zy]) g (zF_refl _ _ _) rfl
  · rw [if_pos (show nI 1 = 1 from rfl)]
    by_cases hc : c = 0
    · rw [if_pos (c00.mpr hc)]
      by_cases q : a < zT_n T
      · obtain ⟨g3, f3, C3, r3⟩ := ev_stepOne_27 (dp := dp + 1) (Dm := (g, h)) hC q
        dsimp only at f3 r3
        refine zyC_yes (X, za_st T X A a) (by simp [zy, q, hc]) g3 (zF_mono f3 (by decide) (by decide)) C3 ?_
        have e1 := zd_X8_happens (zv_ev (dp + 6)) g h (nI 1) (nI a)
        rw [if_neg (show ¬ nI 1 = 2 by decide), hR', if_pos q] at e1
        simp only [Option.bind_some] at e1
        rw [if_neg (by decide), if_pos (show nI 1 = 1 from rfl), r3] at e1
        rw [zs_X8_happens e1]
        rfl
      · refine zyC_no (by simp [zy, q]) g (zF_refl _ _ _) ?_
        have e1 := zd_X8_happens (zv_ev (dp + 6)) g h (nI 1) (nI a)
        rw [if_neg (show ¬ nI 1 = 2 by decide), hR', if_neg q] at e1
        rw [zs_X8_happens e1]
        rfl
    · rw [if_neg (fun z => hc (c00.mp z))]
      exact zyC_no (by simp [zy, hc]) g (zF_refl _ _ _) rfl
  · rw [if_neg (show ¬ nI 2 = 1 by decide), if_pos (show nI 2 = 2 from rfl)]
    by_cases hc : c = 0
    · rw [if_pos (c00.mpr hc)]
      by_cases q : a < zT_m T
      · obtain ⟨g3, f3, C3, r3⟩ := ev_flipC_27 (dp := dp + 5) (Dm := (g, h)) hC q
        dsimp only at f3 r3
        refine zyC_yes (zX_su X (zX_up X ^^^ 2 ^ a), A) (by simp [zy, q, hc]) g3 (zF_mono f3 (by decide) (by decide)) C3 ?_
        have e1 := zd_X8_happens (zv_ev (dp + 6)) g h (nI 2) (nI a)
        rw [if_pos (show nI 2 = 2 from rfl), hE (dp + 5) a l2, if_pos q] at e1
        simp only [Option.bind_some] at e1
        rw [if_neg (by decide), if_neg (show ¬ nI 2 = 1 by decide), if_pos (show nI 2 = 2 from rfl), r3] at e1
        rw [zs_X8_happens e1]
        rfl
      · refine zyC_no (by simp [zy, q]) g (zF_refl _ _ _) ?_
        have e1 := zd_X8_happens (zv_ev (dp + 6)) g h (nI 2) (nI a)
        rw [if_pos (show nI 2 = 2 from rfl), hE (dp + 5) a l2, if_neg q] at e1
        rw [zs_X8_happens e1]
        rfl
    · rw [if_neg (fun z => hc (c00.mp z))]
      exact zyC_no (by simp [zy, hc]) g (zF_refl _ _ _) rfl
  · rw [if_neg (show ¬ nI 3 = 1 by decide), if_neg (show ¬ nI 3 = 2 by decide), if_pos (show nI 3 = 3 from rfl), hE (dp + 6) a l2]
    simp only [Option.bind_some]
    by_cases q : a < zT_m T
    · rw [if_pos q, if_neg (by decide)]
      by_cases hc : c < 6
      · obtain ⟨g3, f3, C3, r3⟩ := ev_changeWeight_27 (dp := dp + 3) (Dm := (g, h)) (e := a) (v := c) hC q (by omega)
        dsimp only at f3 r3
        rw [if_pos (show nI c ≤ 5 from nI_le (b := 5) (by omega) (by decide)), r3]
        exact zyC_yes (zX_sw X a c, A) (by simp [zy, q, hc]) g3 (zF_mono f3 (by decide) (by decide)) C3 rfl
      · rw [if_neg (show ¬ nI c ≤ 5 from nI_ge (a := 5) (by omega) (by omega))]
        exact zyC_no (by simp [zy, hc]) g (zF_refl _ _ _) rfl
    · rw [if_neg q, if_pos rfl]
      exact zyC_no (by simp [zy, q]) g (zF_refl _ _ _) rfl
  · rw [if_neg (show ¬ nI 4 = 1 by decide), if_neg (show ¬ nI 4 = 2 by decide), if_neg (show ¬ nI 4 = 3 by decide), if_pos (show nI 4 = 4 from rfl)]
    by_cases hc : c = 0
    · rw [if_pos (c00.mpr hc)]
      by_cases q : a < zT_n T
      · obtain ⟨g3, f3, C3, r3⟩ := ev_extendC_27 (dp := dp + 5) (Dm := (g, h)) hC q
        dsimp only at f3 r3
        refine zyC_yes (zX_se X (zX_ex X ^^^ 2 ^ a), zA_ad X A a) (by simp [zy, q, hc]) g3 (zF_mono f3 (by decide) (by decide)) C3 ?_
        have e1 := zd_X8_happens (zv_ev (dp + 6)) g h (nI 4) (nI a)
        rw [if_neg (show ¬ nI 4 = 2 by decide), hR', if_pos q] at e1
        simp only [Option.bind_some] at e1
        rw [if_neg (by decide), if_neg (show ¬ nI 4 = 1 by decide), if_neg (show ¬ nI 4 = 2 by decide), r3] at e1
        rw [zs_X8_happens e1]
        rfl
      · refine zyC_no (by simp [zy, q]) g (zF_refl _ _ _) ?_
        have e1 := zd_X8_happens (zv_ev (dp + 6)) g h (nI 4) (nI a)
        rw [if_neg (show ¬ nI 4 = 2 by decide), hR', if_neg q] at e1
        rw [zs_X8_happens e1]
        rfl
    · rw [if_neg (fun z => hc (c00.mp z))]
      exact zyC_no (by simp [zy, hc]) g (zF_refl _ _ _) rfl
  · rw [if_neg (show ¬ nI 5 = 1 by decide), if_neg (show ¬ nI 5 = 2 by decide), if_neg (show ¬ nI 5 = 3 by decide), if_neg (show ¬ nI 5 = 4 by decide), if_pos (show nI 5 = 5 from rfl), cA]
    simp only [Option.bind_some]
    by_cases q : a < zT_n T ∧ (c < zT_m T ∨ c = 9)
    · rw [if_pos q, if_neg (by decide), ev_firstC_27 (dp := dp + 5) (Dm := (g, h)) (i := a) hC (by omega)]
      simp only [Option.bind_some]
      rw [iE]
      simp only [Option.bind_some]
      have el := zc_e_lt (A a 0)
      have eqv : ((c = 9 ∧ (if A a 0 = 0 then (-1 : Int32) else nI (zc_e (A a 0))) = -1) ∨ (c ≠ 9 ∧ (if A a 0 = 0 then (-1 : Int32) else nI (zc_e (A a 0))) = nI c)) ↔ ((c = 9 ∧ A a 0 = 0) ∨ (c ≠ 9 ∧ A a 0 ≠ 0 ∧ zc_e (A a 0) = c)) := by
        by_cases h0 : A a 0 = 0
        · rw [if_pos h0]
          have : ¬ (-1 : Int32) = nI c := fun z => zi_ne1 (by omega) z.symm
          simp [h0, this]
        · rw [if_neg h0]
          have h1 : ¬ nI (zc_e (A a 0)) = -1 := zi_ne1 (by omega)
          have h2 : (nI (zc_e (A a 0)) = nI c) ↔ zc_e (A a 0) = c := nI_eq (by omega) (by omega)
          simp [h0, h1, h2]
      by_cases y : (c = 9 ∧ A a 0 = 0) ∨ (c ≠ 9 ∧ A a 0 ≠ 0 ∧ zc_e (A a 0) = c)
      · rw [if_pos (eqv.mpr y), if_neg (by decide)]
        exact zyC_yes (X, A) (by unfold zy; rw [if_neg (by decide), if_neg (by decide), if_neg (by decide), if_neg (by decide), if_neg (by decide), if_pos rfl, if_pos ⟨q.1, y⟩]) g (zF_refl _ _ _) hC rfl
      · rw [if_neg (fun z => y (eqv.mp z)), if_pos rfl]
        exact zyC_no (by unfold zy; rw [if_neg (by decide), if_neg (by decide), if_neg (by decide), if_neg (by decide), if_neg (by decide), if_pos rfl, if_neg (fun z => y z.2)]) g (zF_refl _ _ _) rfl
    · rw [if_neg q, if_pos rfl]
      refine zyC_no (by
        unfold zy
        rw [if_neg (by decide), if_neg (by decide), if_neg (by decide), if_neg (by decide), if_neg (by decide), if_pos rfl, if_neg (fun z => q ⟨z.1, z.2.elim (fun y => Or.inr y.1) (fun y => Or.inl (y.2.2 ▸ em y.2.1))⟩)]) g (zF_refl _ _ _) rfl
  · rw [if_neg (show ¬ nI 6 = 1 by decide), if_neg (show ¬ nI 6 = 2 by decide), if_neg (show ¬ nI 6 = 3 by decide), if_neg (show ¬ nI 6 = 4 by decide), if_neg (show ¬ nI 6 = 5 by decide), if_pos (show nI 6 = 6 from rfl), cA]
    simp only [Option.bind_some]
    have hwk := za_wk_ok (T := T) (X := X) (A := A) hT hC.2.2.1 6 a 0
    by_cases q : a < zT_n T ∧ (c < zT_m T ∨ c = 9)
    · obtain ⟨g3, f3, p3, r3⟩ := ev_send_27 (dp := dp + 4) (Dm := (g, h)) hC q.1
      dsimp only at f3 r3
      rw [if_pos q, if_neg (by decide), r3]
      simp only [Option.bind_some]
      rw [iE]
      simp only [Option.bind_some]
      have F3 : zF 27 27 g g3 := fun x hx => f3 x (by omega)
      have C3 := zC_F hC F3 (by decide) (by decide)
      have eqv : ((c = 9 ∧ za_wv (-1) (za_wk T X A 6 a 0) = -1) ∨ (c ≠ 9 ∧ za_wv (-1) (za_wk T X A 6 a 0) = nI c)) ↔ ((c = 9 ∧ za_wk T X A 6 a 0 = none) ∨ (c ≠ 9 ∧ ∃ p, za_wk T X A 6 a 0 = some p ∧ p.1 = c)) := by
        cases hq : za_wk T X A 6 a 0 with
        | none =>
          have : ¬ (-1 : Int32) = nI c := fun z => zi_ne1 (by omega) z.symm
          simp [za_wv, this]
        | some p =>
          have hp := hwk p hq
          have h1 : ¬ nI p.1 = -1 := zi_ne1 (by omega)
          have h2 : (nI p.1 = nI c) ↔ p.1 = c := nI_eq (by omega) (by omega)
          simp [za_wv, h1, h2]
      by_cases y : (c = 9 ∧ za_wk T X A 6 a 0 = none) ∨ (c ≠ 9 ∧ ∃ p, za_wk T X A 6 a 0 = some p ∧ p.1 = c)
      · rw [if_pos (eqv.mpr y), if_neg (by decide)]
        exact zyC_yes (X, A) (by unfold zy; rw [if_neg (by decide), if_neg (by decide), if_neg (by decide), if_neg (by decide), if_neg (by decide), if_neg (by decide), if_pos rfl, if_pos ⟨q.1, y⟩]) g3 (zF_mono F3 (by decide) (by decide)) C3 rfl
      · rw [if_neg (fun z => y (eqv.mp z)), if_pos rfl]
        exact zyC_no (by unfold zy; rw [if_neg (by decide), if_neg (by decide), if_neg (by decide), if_neg (by decide), if_neg (by decide), if_neg (by decide), if_pos rfl, if_neg (fun z => y z.2)]) g3 (zF_mono F3 (by decide) (by decide)) rfl
    · rw [if_neg q, if_pos rfl]
      refine zyC_no (by
        unfold zy
        rw [if_neg (by decide), if_neg (by decide), if_neg (by decide), if_neg (by decide), if_neg (by decide), if_neg (by decide), if_pos rfl, if_neg (fun z => q ⟨z.1, z.2.elim (fun y => Or.inr y.1) (fun y => by obtain ⟨p, y1, y2⟩ := y.2; exact Or.inl (y2 ▸ (hwk p y1).1))⟩)]) g (zF_refl _ _ _) rfl
  · rw [if_neg (show ¬ nI 7 = 1 by decide), if_neg (show ¬ nI 7 = 2 by decide), if_neg (show ¬ nI 7 = 3 by decide), if_neg (show ¬ nI 7 = 4 by decide), if_neg (show ¬ nI 7 = 5 by decide), if_neg (show ¬ nI 7 = 6 by decide), if_pos (show nI 7 = 7 from rfl)]
    have zy7 : zy T X A 7 a 0 c = if a = 0 ∧ c < 2 ∧ ((zo T X A).1 = 0 ↔ c = 1) then some (X, A) else none := by
      unfold zy
      rw [if_neg (by decide), if_neg (by decide), if_neg (by decide), if_neg (by decide), if_neg (by decide), if_neg (by decide), if_neg (by decide), if_pos rfl]
    by_cases qa : a = 0
    · rw [if_pos ((zi_0 (by omega)).mpr qa)]
      by_cases qc : c < 2
      · obtain ⟨g3, f3, C3, o3, -, -, n3, fi, r3⟩ := ev_followZ (dp := dp + 1) (Dm := (g, h)) hC
        dsimp only at f3 r3
        have l := fi.1
        rw [if_pos (show nI c ≤ 1 from nI_le (b := 1) (by omega) (by decide)), r3]
        simp only [Option.bind_some]
        have r4 := zs_X0_takeBack (d := dp + 6) (zd_X0_takeBack (zv_ev (dp + 6)) g3 h)
        rw [r4]
        simp only [Option.bind_some]
        have fr4 : ∀ x, x ≠ 31 → zv_cp g3 39 31 0 0 5 x = g3 x := fun x hx => zcp_cell _ _ hx
        have C4 : zC 27 (zv_cp g3 39 31 0 0 5) T X A := ⟨hT, hC.2.1, hC.2.2.1, zC_T_of C3.2.2.2.1 (fun x h1 h2 => fr4 x (by omega)), zC_X_put C3.2.2.2.2.1 (fr4 _ (by decide)) (fr4 _ (by decide)) (fr4 _ (by decide)) (fun j hj => (zcp_in g3 39 31 hj).trans (n3 j hj)), zC_Q_of C3.2.2.2.2.2 (fun x h1 h2 => fr4 x (by omega))⟩
        have F4 : zF 27 43 g (zv_cp g3 39 31 0 0 5) := fun x hx => (fr4 x (by omega)).trans (f3 x (by omega))
        rw [fr4 38 (by decide), o3]
        have c11 : (nI c = 1) ↔ c = 1 := zi_eqc 1 1 rfl (by omega) (by decide)
        by_cases q0 : (zo T X A).1 = 0
        · rw [if_pos ((zi_0 (by omega)).mpr q0)]
          by_cases q1 : c = 1
          · rw [if_pos (c11.mpr q1)]
            exact zyC_yes (X, A) (by rw [zy7, if_pos ⟨qa, qc, ⟨fun _ => q1, fun _ => q0⟩⟩]) _ F4 C4 rfl
          · rw [if_neg (fun z => q1 (c11.mp z))]
            exact zyC_no (by rw [zy7, if_neg (fun z => q1 (z.2.2.mp q0))]) _ F4 rfl
        · rw [if_neg (fun z => q0 ((zi_0 (by omega)).mp z))]
          by_cases q1 : c = 1
          · rw [if_pos (c11.mpr q1)]
            exact zyC_no (by rw [zy7, if_neg (fun z => q0 (z.2.2.mpr q1))]) _ F4 rfl
          · rw [if_neg (fun z => q1 (c11.mp z))]
            exact zyC_yes (X, A) (by rw [zy7, if_pos ⟨qa, qc, ⟨fun z => absurd z q0, fun z => absurd z q1⟩⟩]) _ F4 C4 rfl
      · rw [if_neg (show ¬ nI c ≤ 1 from nI_ge (a := 1) (by omega) (by omega))]
        exact zyC_no (by rw [zy7, if_neg (fun z => qc z.2.1)]) g (zF_refl _ _ _) rfl
    · rw [if_neg (fun z => qa ((zi_0 (by omega)).mp z))]
      exact zyC_no (by rw [zy7, if_neg (fun z => qa z.1)]) g (zF_refl _ _ _) rfl
  · exact zyC_no (by simp [zy]) g (zF_refl _ _ _) rfl
  · exact zyC_no (by simp [zy]) g (zF_refl _ _ _) rfl
