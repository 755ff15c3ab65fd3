def zyM (g : Nat → Nat → Int32) (h : Nat → Nat → Int64) (T : zT) (X : zX) (A : zA) (kd a b c : Nat) (r : Option zv_O) : Prop := ∃ g', zN g g' ∧ r = zv_ri (if (zy T X A kd a b c).isSome = true then 1 else 0) zS0 (g', h) ∧ ∀ p, zy T X A kd a b c = some p → zM_R (g' 120) T p.1 p.2
theorem zyM_no {g : Nat → Nat → Int32} {h : Nat → Nat → Int64} {T : zT} {X : zX} {A : zA} {kd a b c : Nat} {r : Option zv_O} (hz : zy T X A kd a b c = none) (g' : Nat → Nat → Int32) (hF : zN g g') (hr : r = zv_ri 0 zS0 (g', h)) : zyM g h T X A kd a b c r := ⟨g', hF, by rw [hz]; exact hr, fun p hp => by rw [hz] at hp; cases hp⟩
theorem zyM_yes {g : Nat → Nat → Int32} {h : Nat → Nat → Int64} {T : zT} {X : zX} {A : zA} {kd a b c : Nat} {r : Option zv_O} (q : zX × zA) (hz : zy T X A kd a b c = some q) (g' : Nat → Nat → Int32) (hF : zN g g') (hC : zM_R (g' 120) T q.1 q.2) (hr : r = zv_ri 1 zS0 (g', h)) : zyM g h T X A kd a b c r := ⟨g', hF, by rw [hz]; exact hr, fun p hp => by rw [hz] at hp; cases hp; exact hC⟩
theorem zy_b {T : zT} {X : zX} {A : zA} {kd a b c : Nat} (h : b ≠ 0) : zy T X A kd a b c = none := if_pos h
theorem ev_does {dp : Nat} {g : Nat → Nat → Int32} {h : Nat → Nat → Int64} {T : zT} {X : zX} {A : zA} (hT : zT_ok T) (hX : zX_ok T X) (hW : za_W T A) (hR : zM_R (g 120) T X A) {s : Nat} (hs : s < 10000) : zyM g h T X A (s / 1000) (s / 100 % 10) (s / 10 % 10) (s % 10) (zv_m zt_X9_does (zv_ev (dp + 8)) true 0 [some (.ref 116), some (.int (nI s)), none, none, none, none, none] [] zS0 (g, h)) := by
  have h5 := hT.2.1
  have h4 := hT.2.2.1
  obtain ⟨a1, a2, a3, a4⟩ := zy_ar hs
  have hst := zd_X9_does (zv_ev (dp + 8)) g h (nI s)
  obtain ⟨g1, f1, K1, r1⟩ := ev_layCosts_120 (dp := dp + 6) (Dm := (g, h)) (T := T) (X := X) (A := A) hT hX hR
  dsimp only at f1 r1
  have R1 : zM_R (g1 120) T X A := zMR_page (g := g) hR (f1 120 (by decide))
  have N1 : zN g g1 := zN_c (fun x hx => f1 x (by omega))
  simp only [a1, a2, a3, a4, hR.1, hR.2.1, r1, Option.bind_some] at hst
  rw [hst]
  have l1 : s / 1000 < 10 := by omega
  have l2 : s / 100 % 10 < 10 := by omega
  have l3 : s / 10 % 10 < 10 := by omega
  have l4 : s % 10 < 10 := by omega
  clear hst a1 a2 a3 a4
  generalize s / 1000 = kd at l1 ⊢
  generalize s / 100 % 10 = a at l2 ⊢
  generalize s / 10 % 10 = b at l3 ⊢
  generalize s % 10 = c at l4 ⊢
  have en : (nI (zT_n T) ≤ nI a) = (zT_n T ≤ a) := propext (nI_leI (by omega) (by omega))
  have emm : (nI (zT_m T) ≤ nI a) = (zT_m T ≤ a) := propext (nI_leI (by omega) (by omega))
  have eb : (nI b = 0) = (b = 0) := propext (zi_0 (by omega))
  have ea : (nI a = 0) = (a = 0) := propext (zi_0 (by omega))
  have ec : (nI c = 0) = (c = 0) := propext (zi_0 (by omega))
  have ec1 : (nI c = 1) = (c = 1) := propext (zi_eqc 1 1 rfl (by omega) (by decide))
  have ec9 : (nI c = 9) = (c = 9) := propext (zi_eqc 9 9 rfl (by omega) (by decide))
  have ec6 : ((6 : Int32) ≤ nI c) = (6 ≤ c) := propext (nI_leI (a := 6) (by decide) (by omega))
  have ec2 : ((2 : Int32) ≤ nI c) = (2 ≤ c) := propext (nI_leI (a := 2) (by decide) (by omega))
  have k1 : (nI kd = 1) = (kd = 1) := propext (zi_eqc 1 1 rfl (by omega) (by decide))
  have k2 : (nI kd = 2) = (kd = 2) := propext (zi_eqc 2 2 rfl (by omega) (by decide))
  have k3 : (nI kd = 3) = (kd = 3) := propext (zi_eqc 3 3 rfl (by omega) (by decide))
  have k4 : (nI kd = 4) = (kd = 4) := propext (zi_eqc 4 4 rfl (by omega) (by decide))
  have k5 : (nI kd = 5) = (kd = 5) := propext (zi_eqc 5 5 rfl (by omega) (by decide))
  have k6 : (nI kd = 6) = (kd = 6) := propext (zi_eqc 6 6 rfl (by omega) (by decide))
  have k7 : (nI kd = 7) = (kd = 7) := propext (zi_eqc 7 7 rfl (by omega) (by decide))
  have em : A a 0 ≠ 0 → zc_e (A a 0) < zT_m T := fun h0 => by
    rcases hW.1 a 0 with z | z
    · exact absurd z h0
    · exact z.2.2.1
  simp only [en, emm, eb, ea, ec, ec1, ec9, ec6, ec2, k1, k2, k3, k4, k5, k6, k7]
  have N2 : ∀ v, zN g (zv_w g1 120 2 v) := fun v => zN_trans N1 (zN_c (fun x hx => zw_cell _ _ _ (by omega)))
  have r7 : ∃ g7, zN g g7 ∧ g7 120 = g1 120 ∧ zv_ev (dp + 8) 197 [.ref 116] zS0 (g1, h) = zo_i (if (zo T X A).1 = 0 then 1 else 0) (g7, h) := by
    obtain ⟨g2, f2, n2, r2⟩ := ev_lay_121_120 (dp := dp + 6) (g1, h)
    dsimp only at f2 n2 r2
    obtain ⟨g3, p3, R3, o3, -, -, fi, r3⟩ := ev_runOnZ (dp := dp) (Dm := (g2, h)) hT hX hW (zM_R_of R1 n2 h4)
    dsimp only at p3 r3
    have e1 := zd_X9_runsToRest (zv_ev (dp + 7)) g1 h
    rw [r2] at e1
    simp only [Option.bind_some] at e1
    rw [r3] at e1
    simp only [Option.bind_some] at e1
    rw [o3] at e1
    have l := fi.1
    refine ⟨g3, zN_trans N1 (zN_trans (zN_work f2) (zN_P p3)), (p3.1 120 (by decide) (by decide) (by decide) (by decide) (by decide) (by decide) (by decide) (by decide)).trans (f2 120 (by decide)), zs_X9_runsToRest (e1.trans ?_)⟩
    by_cases h0 : (zo T X A).1 = 0
    · rw [if_pos ((zi_0 (by omega)).mpr h0), if_pos h0]
    · rw [if_neg (fun z => h0 ((zi_0 (by omega)).mp z)), if_neg h0]
  obtain ⟨g7, N7, e7, r7⟩ := r7
  by_cases hb' : ¬ b = 0
  · have hb := hb'
    by_cases q1 : zT_n T ≤ a <;> by_cases q2 : zT_m T ≤ a <;> simp only [hb, q1, q2, if_true, if_false, ite_self]
    all_goals
      by_cases p1 : kd = 1
      · simp only [p1, if_true]
        exact zyM_no (zy_b hb) g1 N1 rfl
      · simp only [p1, if_false]
        by_cases p2 : kd = 2
        · simp only [p2, if_true]
          exact zyM_no (zy_b hb) _ (N2 _) rfl
        · simp only [p2, if_false, ite_self]
          exact zyM_no (zy_b hb) g1 N1 rfl
  have hb := Classical.not_not.mp hb'
  subst hb
  have hk : kd = 0 ∨ kd = 1 ∨ kd = 2 ∨ kd = 3 ∨ kd = 4 ∨ kd = 5 ∨ kd = 6 ∨ kd = 7 ∨ kd = 8 ∨ kd = 9 := by omega
  have z6 : ∀ kd, kd = 0 ∨ 8 ≤ kd → zy T X A kd a 0 c = none := by
    intro kd hk
    have n1 : ¬ kd = 1 := by omega
    have n2 : ¬ kd = 2 := by omega
    have n3 : ¬ kd = 3 := by omega
    have n4 : ¬ kd = 4 := by omega
    have n5 : ¬ kd = 5 := by omega
    have n6 : ¬ kd = 6 := by omega
    have n7 : ¬ kd = 7 := by omega
    unfold zy
    rw [if_neg (by decide), if_neg n1, if_neg n2, if_neg n3, if_neg n4, if_neg n5, if_neg n6, if_neg n7]
  rcases hk with rfl | rfl | rfl | rfl | rfl | rfl | rfl | rfl | rfl | rfl
  · by_cases q1 : zT_n T ≤ a <;> by_cases q2 : zT_m T ≤ a <;> simp [q1, q2] <;> exact zyM_no (z6 0 (by decide)) g1 N1 rfl
  · by_cases q1 : zT_n T ≤ a
    · by_cases q2 : zT_m T ≤ a <;> simp only [q1, q2, if_true, if_false] <;> exact zyM_no (by have : ¬ a < zT_n T := by omega
                                                                                              simp [zy, this]) g1 N1 rfl
    · have q : a < zT_n T := by omega
      by_cases hc : c = 0
      · obtain ⟨g3, f3, R3, r3⟩ := ev_stepOn_120 (dp := dp + 2) (Dm := (g1, h)) (T := T) (X := X) (A := A) hT hX R1 K1 hW q
        dsimp only at f3 r3
        have N3 : zN g g3 := zN_trans N1 (zN_c (fun x hx => f3 x (by omega) (by omega) (by omega) (by omega)))
        by_cases q2 : zT_m T ≤ a <;> simp only [q1, q2, hc, if_true, if_false, r3, Option.bind_some] <;> exact zyM_yes (X, za_st T X A a) (by simp [zy, q, hc]) g3 N3 R3 rfl
      · by_cases q2 : zT_m T ≤ a <;> simp only [q1, q2, hc, if_true, if_false] <;> exact zyM_no (by simp [zy, hc]) g1 N1 rfl
  · by_cases q2 : zT_m T ≤ a
    · by_cases q1 : zT_n T ≤ a <;> simp [q1, q2] <;> exact zyM_no (by have : ¬ a < zT_m T := by omega
                                                                      simp [zy, this]) _ (N2 _) rfl
    · have q : a < zT_m T := by omega
      have h31 : zX_up X < 16 := by
        have := hX.2.2.2.2.1
        have := z2m h4
        omega
      have p31 := z2k (show a < 4 by omega)
      by_cases hc : c = 0
      · have e2 : (g1 120 2 ^^^ ((1 : Int32) <<< (nI a &&& 31))) = nI (zX_up X ^^^ 2 ^ a) := by
          rw [R1.2.2.1, zi_sh (by omega), zi_xor (by omega) (by omega)]
        by_cases q1 : zT_n T ≤ a <;> simp [q1, q2, hc, e2] <;> exact zyM_yes (zX_su X (zX_up X ^^^ 2 ^ a), A) (by simp [zy, q, hc]) _ (N2 _) (zM_R_up R1 (zw_same _ _ _ _) (fun k hk _ => zw_other _ _ _ hk) h4) rfl
      · by_cases q1 : zT_n T ≤ a <;> simp [q1, q2, hc] <;> exact zyM_no (by simp [zy, hc]) _ (N2 _) rfl
  · by_cases q2 : zT_m T ≤ a
    · by_cases q1 : zT_n T ≤ a <;> simp [q1, q2] <;> exact zyM_no (by have : ¬ a < zT_m T := by omega
                                                                      simp [zy, this]) g1 N1 rfl
    · have q : a < zT_m T := by omega
      have e58 : ((55 : Int32) + ((4 : Int32) * nI a)) + 3 = nI (58 + 4 * a) := by
        rw [show (4 : Int32) = nI 4 from rfl, show (55 : Int32) = nI 55 from rfl, show (3 : Int32) = nI 3 from rfl, pk_mul, nI_add, nI_add]
        exact congrArg nI (by omega)
      have ein : zv_in (nI (58 + 4 * a)) 101 = true := zi_in (by omega) (by decide)
      have ecl : (nI (58 + 4 * a)).toNatClampNeg = 58 + 4 * a := nI_clamp (by omega)
      by_cases hc : 6 ≤ c
      · have hc' : ¬ c < 6 := by omega
        by_cases q1 : zT_n T ≤ a <;> simp [q1, q2, hc] <;> exact zyM_no (by simp [zy, hc']) g1 N1 rfl
      · have hc' : c < 6 := by omega
        by_cases q1 : zT_n T ≤ a <;> simp [q1, q2, hc, e58, ein, ecl] <;> exact zyM_yes (zX_sw X a c, A) (by simp [zy, q, hc']) _ (zN_trans N1 (zN_c (fun x hx => zw_cell _ _ _ (by omega)))) (zM_R_we R1 (zw_same _ _ _ _) (fun k hk _ => zw_other _ _ _ hk) h4 (by omega)) rfl
  · by_cases q1 : zT_n T ≤ a
    · by_cases q2 : zT_m T ≤ a <;> simp [q1, q2] <;> exact zyM_no (by have : ¬ a < zT_n T := by omega
                                                                      simp [zy, this]) g1 N1 rfl
    · have q : a < zT_n T := by omega
      by_cases hc : c = 0
      · obtain ⟨g3, f3, R3, r3⟩ := ev_addOn_120 (dp := dp + 6) (Dm := (g1, h)) (T := T) (X := X) (A := A) hT hX R1 q
        dsimp only at f3 r3
        have N3 : zN g g3 := zN_trans N1 (zN_c (fun x hx => f3 x (by omega)))
        by_cases q2 : zT_m T ≤ a <;> simp [q1, q2, hc, r3] <;> exact zyM_yes (zX_se X (zX_ex X ^^^ 2 ^ a), zA_ad X A a) (by simp [zy, q, hc]) g3 N3 R3 rfl
      · by_cases q2 : zT_m T ≤ a <;> simp [q1, q2, hc] <;> exact zyM_no (by simp [zy, hc]) g1 N1 rfl
  · have zy5 : zy T X A 5 a 0 c = if a < zT_n T ∧ ((c = 9 ∧ A a 0 = 0) ∨ (c ≠ 9 ∧ A a 0 ≠ 0 ∧ zc_e (A a 0) = c)) then some (X, A) else none := by
      unfold zy
      rw [if_neg (by decide), if_neg (by decide), if_neg (by decide), if_neg (by decide), if_neg (by decide), if_pos rfl]
    by_cases q1 : zT_n T ≤ a
    · by_cases q2 : zT_m T ≤ a <;> simp [q1, q2] <;> exact zyM_no (by rw [zy5, if_neg (fun z => by have := z.1; omega)]) g1 N1 rfl
    · have q : a < zT_n T := by omega
      have hch := (R1.2.2.2.2.2.2.2.2 a 0 (by omega) (by decide)).1
      have rat : zv_ev (dp + 8) 156 [.int (nI a), .int 0] zS0 (g1, h) = zo_i (nI (71 + 6 * a + 3 * 0)) (g1, h) := by
        rw [show (Value.int 0) = Value.int (nI 0) from rfl, ev_at (dp := dp + 7) (g1, h), zx_at]
      have ein : zv_in (nI (71 + 6 * a + 3 * 0)) 101 = true := zi_in (by omega) (by decide)
      have ecl : (nI (71 + 6 * a + 3 * 0)).toNatClampNeg = 71 + 6 * a + 3 * 0 := nI_clamp (by omega)
      have el := zc_e_lt (A a 0)
      have fin : zyM g h T X A 5 a 0 c (if c = 9 then (if zm_v (A a 0) (zc_e (A a 0)) = -9 then zv_ri 1 zS0 (g1, h) else zv_ri 0 zS0 (g1, h)) else (if zm_v (A a 0) (zc_e (A a 0)) = nI c then zv_ri 1 zS0 (g1, h) else zv_ri 0 zS0 (g1, h))) := by
        by_cases h9 : c = 9
        · rw [if_pos h9]
          by_cases h0 : A a 0 = 0
          · rw [zm_v0 h0, if_pos rfl]
            exact zyM_yes (X, A) (by rw [zy5, if_pos ⟨q, Or.inl ⟨h9, h0⟩⟩]) g1 N1 R1 rfl
          · rw [zm_v1 h0, if_neg (zi_ne9 (by omega))]
            exact zyM_no (by rw [zy5, if_neg (fun z => z.2.elim (fun y => h0 y.2) (fun y => y.1 h9))]) g1 N1 rfl
        · rw [if_neg h9]
          by_cases h0 : A a 0 = 0
          · rw [zm_v0 h0, if_neg (fun z => zi_ne9 (by omega) z.symm)]
            exact zyM_no (by rw [zy5, if_neg (fun z => z.2.elim (fun y => h9 y.1) (fun y => y.2.1 h0))]) g1 N1 rfl
          · rw [zm_v1 h0]
            by_cases hc : zc_e (A a 0) = c
            · rw [if_pos (by rw [hc])]
              exact zyM_yes (X, A) (by rw [zy5, if_pos ⟨q, Or.inr ⟨h9, h0, hc⟩⟩]) g1 N1 R1 rfl
            · rw [if_neg (fun z => hc ((nI_eq (by omega) (by omega)).mp z))]
              exact zyM_no (by rw [zy5, if_neg (fun z => z.2.elim (fun y => h9 y.1) (fun y => hc y.2.2))]) g1 N1 rfl
      by_cases q2 : zT_m T ≤ a <;> simp only [q1, q2, if_true, if_false, rat, Option.bind_some, ein, ecl, cond_true, hch, show ((5 : Nat) = 1) = False from by simp, show ((5 : Nat) = 2) = False from by simp, show ((5 : Nat) = 3) = False from by simp, show ((5 : Nat) = 4) = False from by simp] <;> exact fin
  · have zy6 : zy T X A 6 a 0 c = if a < zT_n T ∧ ((c = 9 ∧ za_wk T X A 6 a 0 = none) ∨ (c ≠ 9 ∧ ∃ p, za_wk T X A 6 a 0 = some p ∧ p.1 = c)) then some (X, A) else none := by
      unfold zy
      rw [if_neg (by decide), if_neg (by decide), if_neg (by decide), if_neg (by decide), if_neg (by decide), if_neg (by decide), if_pos rfl]
    have hwk := za_wk_ok (T := T) (X := X) (A := A) hT hW 6 a 0
    by_cases q1 : zT_n T ≤ a
    · by_cases q2 : zT_m T ≤ a <;> simp [q1, q2] <;> exact zyM_no (by rw [zy6, if_neg (fun z => by have := z.1; omega)]) g1 N1 rfl
    · have q : a < zT_n T := by omega
      obtain ⟨g3, f3, o3, p3, r3⟩ := ev_leaveFrom_120 (dp := dp + 6) (Dm := (g1, h)) (T := T) (X := X) (A := A) hT hX hW R1 K1 q
      dsimp only at f3 o3 r3
      have N3 : zN g g3 := zN_trans N1 ⟨fun x hx => f3 x (by omega), fun q hq => o3 q (by omega)⟩
      have R3 : zM_R (g3 120) T X A := zMR_page (g := g1) R1 (f3 120 (by decide))
      have fin : zyM g h T X A 6 a 0 c (if c = 9 then (if za_wv (-9) (za_wk T X A 6 a 0) = -9 then zv_ri 1 zS0 (g3, h) else zv_ri 0 zS0 (g3, h)) else (if za_wv (-9) (za_wk T X A 6 a 0) = nI c then zv_ri 1 zS0 (g3, h) else zv_ri 0 zS0 (g3, h))) := by
        cases hq : za_wk T X A 6 a 0 with
        | none =>
          by_cases h9 : c = 9
          · rw [if_pos h9, if_pos (show za_wv (-9) none = -9 from rfl)]
            exact zyM_yes (X, A) (by rw [zy6, hq, if_pos ⟨q, Or.inl ⟨h9, rfl⟩⟩]) g3 N3 R3 rfl
          · rw [if_neg h9, if_neg (show ¬ za_wv (-9) none = nI c from fun z => zi_ne9 (by omega) z.symm)]
            exact zyM_no (by rw [zy6, hq, if_neg (fun z => z.2.elim (fun y => h9 y.1) (fun y => by obtain ⟨p, y1, y2⟩ := y.2; cases y1))]) g3 N3 rfl
        | some p =>
          have hp := hwk p hq
          by_cases h9 : c = 9
          · rw [if_pos h9, if_neg (show ¬ za_wv (-9) (some p) = -9 from zi_ne9 (by omega))]
            exact zyM_no (by rw [zy6, hq, if_neg (fun z => z.2.elim (fun y => by cases y.2) (fun y => y.1 h9))]) g3 N3 rfl
          · rw [if_neg h9]
            by_cases hc : p.1 = c
            · rw [if_pos (show za_wv (-9) (some p) = nI c from by rw [← hc]; rfl)]
              exact zyM_yes (X, A) (by rw [zy6, hq, if_pos ⟨q, Or.inr ⟨h9, p, rfl, hc⟩⟩]) g3 N3 R3 rfl
            · rw [if_neg (show ¬ za_wv (-9) (some p) = nI c from fun z => hc ((nI_eq (by omega) (by omega)).mp z))]
              exact zyM_no (by rw [zy6, hq, if_neg (fun z => z.2.elim (fun y => h9 y.1) (fun y => by obtain ⟨p', y1, y2⟩ := y.2; cases y1; exact hc y2))]) g3 N3 rfl
      by_cases q2 : zT_m T ≤ a <;> simp only [q1, q2, if_true, if_false, r3, Option.bind_some, show ((6 : Nat) = 1) = False from by simp, show ((6 : Nat) = 2) = False from by simp, show ((6 : Nat) = 3) = False from by simp, show ((6 : Nat) = 4) = False from by simp, show ((6 : Nat) = 5) = False from by simp] <;> exact fin
  · have zy7 : zy T X A 7 a 0 c = if a = 0 ∧ c < 2 ∧ ((zo T X A).1 = 0 ↔ c = 1) then some (X, A) else none := by
      unfold zy
      rw [if_neg (by decide), if_neg (by decide), if_neg (by decide), if_neg (by decide), if_neg (by decide), if_neg (by decide), if_neg (by decide), if_pos rfl]
    have R7 : zM_R (g7 120) T X A := zMR_page (g := g1) R1 e7
    have fin : zyM g h T X A 7 a 0 c (if a = 0 then (if 2 ≤ c then zv_ri 0 zS0 (g1, h) else (if c = 1 then (if (if (zo T X A).1 = 0 then (1 : Int32) else 0) = 1 then zv_ri 1 zS0 (g7, h) else zv_ri 0 zS0 (g7, h)) else (if (if (zo T X A).1 = 0 then (1 : Int32) else 0) = 0 then zv_ri 1 zS0 (g7, h) else zv_ri 0 zS0 (g7, h)))) else zv_ri 0 zS0 (g1, h)) := by
      by_cases qa : a = 0
      · rw [if_pos qa]
        by_cases q2 : 2 ≤ c
        · rw [if_pos q2]
          exact zyM_no (by rw [zy7, if_neg (fun z => by have := z.2.1; omega)]) g1 N1 rfl
        · rw [if_neg q2]
          by_cases q0 : (zo T X A).1 = 0
          · rw [if_pos q0, if_pos rfl, if_neg (show ¬ (1 : Int32) = 0 by decide)]
            by_cases q1 : c = 1
            · rw [if_pos q1]
              exact zyM_yes (X, A) (by rw [zy7, if_pos ⟨qa, by omega, ⟨fun _ => q1, fun _ => q0⟩⟩]) g7 N7 R7 rfl
            · rw [if_neg q1]
              exact zyM_no (by rw [zy7, if_neg (fun z => q1 (z.2.2.mp q0))]) g7 N7 rfl
          · rw [if_neg q0, if_pos rfl, if_neg (show ¬ (0 : Int32) = 1 by decide)]
            by_cases q1 : c = 1
            · rw [if_pos q1]
              exact zyM_no (by rw [zy7, if_neg (fun z => q0 (z.2.2.mpr q1))]) g7 N7 rfl
            · rw [if_neg q1]
              exact zyM_yes (X, A) (by rw [zy7, if_pos ⟨qa, by omega, ⟨fun z => absurd z q0, fun z => absurd z q1⟩⟩]) g7 N7 R7 rfl
      · rw [if_neg qa]
        exact zyM_no (by rw [zy7, if_neg (fun z => qa z.1)]) g1 N1 rfl
    by_cases q1 : zT_n T ≤ a <;> by_cases q2 : zT_m T ≤ a <;> simp only [q1, q2, if_true, if_false, r7, Option.bind_some, show ((7 : Nat) = 1) = False from by simp, show ((7 : Nat) = 2) = False from by simp, show ((7 : Nat) = 3) = False from by simp, show ((7 : Nat) = 4) = False from by simp, show ((7 : Nat) = 5) = False from by simp, show ((7 : Nat) = 6) = False from by simp] <;> exact fin
  · by_cases q1 : zT_n T ≤ a <;> by_cases q2 : zT_m T ≤ a <;> simp [q1, q2] <;> exact zyM_no (z6 8 (by decide)) g1 N1 rfl
  · by_cases q1 : zT_n T ≤ a <;> by_cases q2 : zT_m T ≤ a <;> simp [q1, q2] <;> exact zyM_no (z6 9 (by decide)) g1 N1 rfl
