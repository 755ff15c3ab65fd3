def zkM (g : Nat → Nat → Int32) (h : Nat → Nat → Int64) (tx : Nat → Nat) (L : Nat) (r : Bool × zK) (z : Option (zv_R × zv_D)) : Prop := ∃ g', zFm g g' ∧ g' 116 3 = nI r.2.1.2.2.1 ∧ (r.1 = true → zKM g' tx L r.2) ∧ z = zo_i (if r.1 = true then 1 else 0) (g', h)
/-- one cell of the page changed -/
theorem zKM_w {g : Nat → Nat → Int32} {tx : Nat → Nat} {L : Nat} {S : zK} (hK : zKM g tx L S) {g' : Nat → Nat → Int32} {fr i j a b p q : Nat} (hfr : fr = 5 ∨ fr = 30) (hi : i < 5) (hj : j < 5) (hF : zFm g g') (h3 : g' 116 3 = nI p) (h4 : g' 116 4 = nI q) (h8 : g' 118 = zv_w (zv_w g 118 (fr + (5 * i + j)) (nI a)) 118 (fr + (5 * j + i)) (nI b) 118) : zKM g' tx L (if fr = 5 then ((S.1.1, S.1.2.1, p, q), zk_pu S.2.1 i j a b, S.2.2) else ((S.1.1, S.1.2.1, p, q), S.2.1, zk_pu S.2.2.1 i j a b, S.2.2.2)) := by
  obtain ⟨b1, b2, b3, b4, b5, b6, b7, b8, b9, b10, b11, b12, b13⟩ := hK
  have o : ∀ k, k ≠ fr + (5 * i + j) → k ≠ fr + (5 * j + i) → g' 118 k = g 118 k := fun k k1 k2 => by rw [h8, zw_other _ _ _ k2, zw_other _ _ _ k1]
  have s1 : g' 118 (fr + (5 * j + i)) = nI b := by rw [h8, zw_same]
  have s2 : fr + (5 * i + j) ≠ fr + (5 * j + i) → g' 118 (fr + (5 * i + j)) = nI a := fun z => by rw [h8, zw_other _ _ _ z, zw_same]
  have t2 : g' 116 2 = nI L := (hF.2 2 (by decide) (by decide) (by decide) (by decide)).trans b1
  have t7 : ∀ k, k < L → g' 117 k = nI (tx k) := fun k hk => (congrFun (hF.1 117 (by decide) (by decide)) k).trans (b2 k hk)
  rcases hfr with rfl | rfl
  · rw [if_pos rfl]
    refine ⟨t2, t7, (o 0 (by omega) (by omega)).trans b3, (o 1 (by omega) (by omega)).trans b4, h3, h4, fun k hk => ?_, fun k hk => (o _ (by omega) (by omega)).trans (b8 k hk), fun e he => ?_, fun k k1 k2 => (o k (by omega) (by omega)).trans (b10 k k1 k2), (o 2 (by omega) (by omega)).trans b11, (o 3 (by omega) (by omega)).trans b12, (o 4 (by omega) (by omega)).trans b13⟩
    · show _ = nI (if k = 5 * j + i then b else if k = 5 * i + j then a else S.2.1 k)
      by_cases q1 : k = 5 * j + i
      · rw [if_pos q1, q1]; exact s1
      · rw [if_neg q1]
        by_cases q2 : k = 5 * i + j
        · rw [if_pos q2, q2]; exact s2 (by omega)
        · rw [if_neg q2]; exact (o _ (by omega) (by omega)).trans (b7 k hk)
    · rw [o _ (by omega) (by omega), o _ (by omega) (by omega), o _ (by omega) (by omega), o _ (by omega) (by omega)]
      exact b9 e he
  · rw [if_neg (by decide)]
    refine ⟨t2, t7, (o 0 (by omega) (by omega)).trans b3, (o 1 (by omega) (by omega)).trans b4, h3, h4, fun k hk => (o _ (by omega) (by omega)).trans (b7 k hk), fun k hk => ?_, fun e he => ?_, fun k k1 k2 => (o k (by omega) (by omega)).trans (b10 k k1 k2), (o 2 (by omega) (by omega)).trans b11, (o 3 (by omega) (by omega)).trans b12, (o 4 (by omega) (by omega)).trans b13⟩
    · show _ = nI (if k = 5 * j + i then b else if k = 5 * i + j then a else S.2.2.1 k)
      by_cases q1 : k = 5 * j + i
      · rw [if_pos q1, q1]; exact s1
      · rw [if_neg q1]
        by_cases q2 : k = 5 * i + j
        · rw [if_pos q2, q2]; exact s2 (by omega)
        · rw [if_neg q2]; exact (o _ (by omega) (by omega)).trans (b8 k hk)
    · rw [o _ (by omega) (by omega), o _ (by omega) (by omega), o _ (by omega) (by omega), o _ (by omega) (by omega)]
      exact b9 e he
section RD
variable {dp : Nat} {g : Nat → Nat → Int32} {h : Nat → Nat → Int64} {tx : Nat → Nat} {L : Nat} {S : zK}
theorem ev_readLink (hK : zKM g tx L S) (ok : zK_ok S) (hL : L ≤ 90) (hb : ∀ k, k < L → tx k < 256) (hp : S.1.2.2.1 < L) (haf : zk_af S.2.1 S.1.1 S.1.1 = true) : zkM g h tx L (zk_li tx L S) (zv_ev (dp + 4) 144 [.ref 116] zS0 (zv_w g 116 3 (nI (S.1.2.2.1 + 1)), h)) := by
  have h5 := ok.2.1
  have K0 := zKM_p hK (S.1.2.2.1 + 1)
  have F0 : zFm g (zv_w g 116 3 (nI (S.1.2.2.1 + 1))) := zFm_6 _ _ (by decide)
  obtain ⟨g1, F1, c1, q1, m1, r1⟩ := ev_readTwo (dp := dp) (h := h) (w := S.2.1) (fr := 5) (p := S.1.2.2.1) K0 h5 ok.1 rfl hL hb hp (by decide) haf (fun g' S' hK' e k hk => by
    have := hK'.2.2.2.2.2.2.1 k hk
    rw [e] at this
    exact this) ok.2.2.2.1
  have r1' : zv_ev (dp + 3) 143 [.ref 116, .int 5] zS0 (zv_w g 116 3 (nI (S.1.2.2.1 + 1)), h) = zo_i (match zk_tw tx L S.2.1 S.1.1 S.1.2.2.1 with | .inl _ => 0 | .inr _ => 1) (g1, h) := r1
  have hst := zd_X9_readLink (zv_ev (dp + 3)) (zv_w g 116 3 (nI (S.1.2.2.1 + 1))) h
  rw [r1'] at hst
  simp only [Option.bind_some] at hst
  unfold zk_li
  have m1' : (match zk_tw tx L S.2.1 S.1.1 S.1.2.2.1 with | .inl e => g1 116 3 = nI e | .inr q => g1 116 3 = nI (S.1.2.2.1 + 3) ∧ g1 116 29 = nI q.1 ∧ g1 116 30 = nI q.2) := m1
  cases hq : zk_tw tx L S.2.1 S.1.1 S.1.2.2.1 with
  | inl e =>
    rw [hq] at hst m1'
    exact ⟨g1, zFm_trans F0 F1, m1', fun z => Bool.noConfusion z, zs_X9_readLink hst⟩
  | inr q =>
    rw [hq] at hst m1'
    dsimp only at hst m1' ⊢
    obtain ⟨t1, t2, t3, t4⟩ := zk_tw_ok ok.1 hq
    obtain ⟨n3, n29, n30⟩ := m1'
    have g2L : g1 116 2 = nI L := (F1.2 2 (by decide) (by decide) (by decide) (by decide)).trans K0.1
    have g7 : ∀ k, k < L → g1 117 k = nI (tx k) := fun k hk => (congrFun (F1.1 117 (by decide) (by decide)) k).trans (K0.2.1 k hk)
    have d1 := ev_figure (dp := dp + 1) (h := h) (lo := 1) (hi := 9) g2L n3 g7 hL hb (by omega) (by decide) (by decide)
    have d1' : zv_ev (dp + 3) 140 [.ref 116, .int 1, .int 9] zS0 (g1, h) = _ := d1
    rw [if_neg (show ¬ (1 : Int32) = 0 by decide), d1'] at hst
    have pr : ∀ (s : Nat → Nat → Int32) (i j : Nat), i < 5 → j < 5 → zv_ev (dp + 3) 137 [.int 5, .int (nI i), .int (nI j)] zS0 (s, h) = zo_i (nI (5 + (5 * i + j))) (s, h) := fun s i j hi hj => by
      rw [ev_pair (dp := dp + 2) (s, h), zx_05]
    have in1 : zv_in (nI (5 + (5 * q.1 + q.2))) 101 = true := zi_in (by omega) (by decide)
    have in2 : zv_in (nI (5 + (5 * q.2 + q.1))) 101 = true := zi_in (by omega) (by decide)
    have cl1 : (nI (5 + (5 * q.1 + q.2))).toNatClampNeg = 5 + (5 * q.1 + q.2) := nI_clamp (by omega)
    have cl2 : (nI (5 + (5 * q.2 + q.1))).toNatClampNeg = 5 + (5 * q.2 + q.1) := nI_clamp (by omega)
    cases hd : zk_dg tx L (S.1.2.2.1 + 3) 1 9 with
    | none =>
      rw [hd] at hst
      simp only [Option.bind_some] at hst
      rw [n29, n30, pr _ _ _ (by omega) (by omega)] at hst
      simp only [Option.bind_some, in1, cl1, cond_true] at hst
      rw [zw_cell _ _ _ (by decide), n29, n30, pr _ _ _ (by omega) (by omega)] at hst
      simp only [Option.bind_some, in2, cl2, cond_true] at hst
      rw [if_pos trivial] at hst
      refine ⟨_, zFm_trans F0 (zFm_trans F1 (zFm_trans (zFm_8 _ _ _) (zFm_8 _ _ _))), ?_, fun z => Bool.noConfusion z, zs_X9_readLink hst⟩
      rw [zw_cell _ _ _ (by decide), zw_cell _ _ _ (by decide)]
      exact n3
    | some v =>
      rw [hd] at hst
      have lv := zk_dg_le hd
      simp only [Option.bind_some] at hst
      rw [zw_other _ _ _ (by decide), zw_other _ _ _ (by decide), n29, n30, pr _ _ _ (by omega) (by omega)] at hst
      simp only [Option.bind_some, in1, cl1, cond_true] at hst
      rw [zw_cell _ _ _ (by decide), zw_other _ _ _ (by decide), zw_other _ _ _ (by decide), n29, n30, pr _ _ _ (by omega) (by omega)] at hst
      simp only [Option.bind_some, in2, cl2, cond_true] at hst
      rw [if_neg (zi_ne9 (by omega))] at hst
      have FF : zFm g (zv_w (zv_w (zv_w g1 116 3 (nI (S.1.2.2.1 + 3 + 1))) 118 (5 + (5 * q.1 + q.2)) (nI v)) 118 (5 + (5 * q.2 + q.1)) (nI v)) := zFm_trans F0 (zFm_trans F1 (zFm_trans (zFm_6 _ _ (by decide)) (zFm_trans (zFm_8 _ _ _) (zFm_8 _ _ _))))
      have h3 : zv_w (zv_w (zv_w g1 116 3 (nI (S.1.2.2.1 + 3 + 1))) 118 (5 + (5 * q.1 + q.2)) (nI v)) 118 (5 + (5 * q.2 + q.1)) (nI v) 116 3 = nI (S.1.2.2.1 + 4) := by
        rw [zw_cell _ _ _ (by decide), zw_cell _ _ _ (by decide), zw_same]
      have h4 : zv_w (zv_w (zv_w g1 116 3 (nI (S.1.2.2.1 + 3 + 1))) 118 (5 + (5 * q.1 + q.2)) (nI v)) 118 (5 + (5 * q.2 + q.1)) (nI v) 116 4 = nI S.1.2.2.2 := by
        rw [zw_cell _ _ _ (by decide), zw_cell _ _ _ (by decide), zw_other _ _ _ (by decide), q1]
        exact K0.2.2.2.2.2.1
      refine ⟨_, FF, h3, fun _ => ?_, zs_X9_readLink hst⟩
      have := zKM_w (g' := zv_w (zv_w (zv_w g1 116 3 (nI (S.1.2.2.1 + 3 + 1))) 118 (5 + (5 * q.1 + q.2)) (nI v)) 118 (5 + (5 * q.2 + q.1)) (nI v)) hK (fr := 5) (i := q.1) (j := q.2) (a := v) (b := v) (Or.inl rfl) (by omega) (by omega) FF h3 h4 (by
        funext k
        have e1 : g1 118 = g 118 := c1.trans (zw_cell _ _ _ (by decide))
        simp only [zw_at]
        rw [e1]
        simp)
      rw [if_pos rfl] at this
      exact this
theorem ev_readSession (hK : zKM g tx L S) (ok : zK_ok S) (hL : L ≤ 90) (hb : ∀ k, k < L → tx k < 256) (hp : S.1.2.2.1 < L) (haf : zk_af S.2.2.1 S.1.1 S.1.1 = true) (pe : Bool) : zkM g h tx L (zk_se tx L S (if pe = true then 1 else 2) (if pe = true then 1 else 3)) (zv_ev (dp + 4) 145 [.ref 116, .int (if pe = true then 1 else 0)] zS0 (zv_w g 116 3 (nI (S.1.2.2.1 + 1)), h)) := by
  have h5 := ok.2.1
  have K0 := zKM_p hK (S.1.2.2.1 + 1)
  have F0 : zFm g (zv_w g 116 3 (nI (S.1.2.2.1 + 1))) := zFm_6 _ _ (by decide)
  obtain ⟨g1, F1, c1, q1, m1, r1⟩ := ev_readTwo (dp := dp) (h := h) (w := S.2.2.1) (fr := 30) (p := S.1.2.2.1) K0 h5 ok.1 rfl hL hb hp (by decide) haf (fun g' S' hK' e k hk => by
    have := hK'.2.2.2.2.2.2.2.1 k hk
    rw [e] at this
    exact this) (fun k => Nat.le_trans (ok.2.2.2.2.2.2.1 k) (by decide))
  have r1' : zv_ev (dp + 3) 143 [.ref 116, .int 30] zS0 (zv_w g 116 3 (nI (S.1.2.2.1 + 1)), h) = zo_i (match zk_tw tx L S.2.2.1 S.1.1 S.1.2.2.1 with | .inl _ => 0 | .inr _ => 1) (g1, h) := r1
  have hst := zd_X9_readSession (zv_ev (dp + 3)) (zv_w g 116 3 (nI (S.1.2.2.1 + 1))) h (if pe = true then 1 else 0)
  rw [r1'] at hst
  simp only [Option.bind_some] at hst
  unfold zk_se
  have m1' : (match zk_tw tx L S.2.2.1 S.1.1 S.1.2.2.1 with | .inl e => g1 116 3 = nI e | .inr q => g1 116 3 = nI (S.1.2.2.1 + 3) ∧ g1 116 29 = nI q.1 ∧ g1 116 30 = nI q.2) := m1
  cases hq : zk_tw tx L S.2.2.1 S.1.1 S.1.2.2.1 with
  | inl e =>
    rw [hq] at hst m1'
    exact ⟨g1, zFm_trans F0 F1, m1', fun z => Bool.noConfusion z, zs_X9_readSession hst⟩
  | inr q =>
    rw [hq] at hst m1'
    dsimp only at hst m1' ⊢
    obtain ⟨t1, t2, t3, t4⟩ := zk_tw_ok ok.1 hq
    obtain ⟨n3, n29, n30⟩ := m1'
    have pr : ∀ (s : Nat → Nat → Int32) (i j : Nat), i < 5 → j < 5 → zv_ev (dp + 3) 137 [.int 30, .int (nI i), .int (nI j)] zS0 (s, h) = zo_i (nI (30 + (5 * i + j))) (s, h) := fun s i j hi hj => by
      rw [ev_pair (dp := dp + 2) (s, h), zx_30]
    have in1 : zv_in (nI (30 + (5 * q.1 + q.2))) 101 = true := zi_in (by omega) (by decide)
    have in2 : zv_in (nI (30 + (5 * q.2 + q.1))) 101 = true := zi_in (by omega) (by decide)
    have cl1 : (nI (30 + (5 * q.1 + q.2))).toNatClampNeg = 30 + (5 * q.1 + q.2) := nI_clamp (by omega)
    have cl2 : (nI (30 + (5 * q.2 + q.1))).toNatClampNeg = 30 + (5 * q.2 + q.1) := nI_clamp (by omega)
    rw [if_neg (show ¬ (1 : Int32) = 0 by decide), n29, n30, pr _ _ _ (by omega) (by omega)] at hst
    simp only [Option.bind_some, in1, cl1, cond_true] at hst
    have w29 : ∀ v, zv_w g1 118 (30 + (5 * q.1 + q.2)) v 116 29 = nI q.1 := fun v => (congrFun (zw_cell _ _ _ (by decide)) 29).trans n29
    have w30 : ∀ v, zv_w g1 118 (30 + (5 * q.1 + q.2)) v 116 30 = nI q.2 := fun v => (congrFun (zw_cell _ _ _ (by decide)) 30).trans n30
    simp only [w29, w30] at hst
    rw [pr _ _ _ (by omega) (by omega), pr _ _ _ (by omega) (by omega)] at hst
    simp only [Option.bind_some, in2, cl2, cond_true] at hst
    have fin : ∀ (a b : Nat) (x y : Int32), nI a = x → nI b = y → zkM g h tx L (true, ((S.1.1, S.1.2.1, S.1.2.2.1 + 3, S.1.2.2.2), S.2.1, zk_pu S.2.2.1 q.1 q.2 a b, S.2.2.2)) (zo_i 1 (zv_w (zv_w g1 118 (30 + (5 * q.1 + q.2)) x) 118 (30 + (5 * q.2 + q.1)) y, h)) := by
      rintro a b x y rfl rfl
      have FF : zFm g (zv_w (zv_w g1 118 (30 + (5 * q.1 + q.2)) (nI a)) 118 (30 + (5 * q.2 + q.1)) (nI b)) := zFm_trans F0 (zFm_trans F1 (zFm_trans (zFm_8 _ _ _) (zFm_8 _ _ _)))
      have h3 : zv_w (zv_w g1 118 (30 + (5 * q.1 + q.2)) (nI a)) 118 (30 + (5 * q.2 + q.1)) (nI b) 116 3 = nI (S.1.2.2.1 + 3) := by
        rw [zw_cell _ _ _ (by decide), zw_cell _ _ _ (by decide)]; exact n3
      have h4 : zv_w (zv_w g1 118 (30 + (5 * q.1 + q.2)) (nI a)) 118 (30 + (5 * q.2 + q.1)) (nI b) 116 4 = nI S.1.2.2.2 := by
        rw [zw_cell _ _ _ (by decide), zw_cell _ _ _ (by decide), q1]
        exact K0.2.2.2.2.2.1
      refine ⟨_, FF, h3, fun _ => ?_, rfl⟩
      have := zKM_w (g' := zv_w (zv_w g1 118 (30 + (5 * q.1 + q.2)) (nI a)) 118 (30 + (5 * q.2 + q.1)) (nI b)) hK (fr := 30) (i := q.1) (j := q.2) (a := a) (b := b) (Or.inr rfl) (by omega) (by omega) FF h3 h4 (by
        funext k
        have e1 : g1 118 = g 118 := c1.trans (zw_cell _ _ _ (by decide))
        simp only [zw_at]
        rw [e1])
      rw [if_neg (by decide)] at this
      exact this
    cases pe with
    | true =>
      rw [if_pos rfl, if_neg (show ¬ (1 : Int32) = 0 by decide), if_neg (show ¬ (1 : Int32) = 0 by decide)] at hst
      obtain ⟨g', a, b, c, d⟩ := fin 1 1 1 1 rfl rfl
      exact ⟨g', a, b, c, (zs_X9_readSession hst).trans d⟩
    | false =>
      rw [if_neg (show ¬ false = true by decide), if_pos rfl, if_pos rfl] at hst
      obtain ⟨g', a, b, c, d⟩ := fin 2 3 2 3 rfl rfl
      exact ⟨g', a, b, c, (zs_X9_readSession hst).trans d⟩
end RD
