section RE
variable {dp : Nat} {g : Nat → Nat → Int32} {h : Nat → Nat → Int64} {tx : Nat → Nat} {L : Nat} {S : zK}
theorem ev_readExit (hK : zKM g tx L S) (ok : zK_ok S) (hL : L ≤ 90) (hb : ∀ k, k < L → tx k < 256) (hp : S.1.2.2.1 < L) (hm : S.1.2.1 < 4) : zkM g h tx L (zk_ex tx L S) (zv_ev (dp + 4) 146 [.ref 116] zS0 (zv_w g 116 3 (nI (S.1.2.2.1 + 1)), h)) := by
  have h5 := ok.2.1
  have h1 := ok.1
  have hn1 : nI S.1.1 - 1 = nI (S.1.1 - 1) := pk_sub (a := S.1.1) (b := 1) h1
  have e55 : (55 : Int32) + ((4 : Int32) * nI S.1.2.1) = nI (55 + 4 * S.1.2.1) := by rw [show (4 : Int32) = nI 4 from rfl, show (55 : Int32) = nI 55 from rfl, pk_mul, nI_add]
  have K0 := zKM_p hK (S.1.2.2.1 + 1)
  have F0 : zFm g (zv_w g 116 3 (nI (S.1.2.2.1 + 1))) := zFm_6 _ _ (by decide)
  have hst := zd_X9_readExit (zv_ev (dp + 3)) (zv_w g 116 3 (nI (S.1.2.2.1 + 1))) h
  rw [K0.2.2.2.1, show (zk_sp S (S.1.2.2.1 + 1)).1.2.1 = S.1.2.1 from rfl, e55] at hst
  -- one figure
  have fig : ∀ (s : Nat → Nat → Int32) (k p lo hi : Nat) (x y : Int32) (u : Option Value), k < 4 → zFm g s → s 116 3 = nI p → p ≤ L → s 118 0 = nI S.1.1 → lo < 10 → hi < 10 → nI lo = x → nI hi = y → (∀ z, zv_m zt_X9_readExit (zv_ev (dp + 3)) true 14 [some (.ref 116), some (.int (nI (55 + 4 * S.1.2.1))), some (.int (nI k)), u] [] zS0 (s, h) = z → z = ((zv_ev (dp + 3) 140 [.ref 116, .int x, .int y] zS0 (s, h)).bind fun p4 => (if p4.1.1 = (-9) then zv_ri 0 zS0 p4.2 else (bif zv_in (nI (55 + 4 * S.1.2.1) + nI k) 101 then zv_m zt_X9_readExit (zv_ev (dp + 3)) true 14 [some (.ref 116), some (.int (nI (55 + 4 * S.1.2.1))), some (.int (nI k + 1)), some (.int p4.1.1)] [] zS0 ((zv_w p4.2.1 118 (nI (55 + 4 * S.1.2.1) + nI k).toNatClampNeg p4.1.1), p4.2.2) else none)))) → zv_m zt_X9_readExit (zv_ev (dp + 3)) true 14 [some (.ref 116), some (.int (nI (55 + 4 * S.1.2.1))), some (.int (nI k)), u] [] zS0 (s, h) = (match zk_dg tx L p lo hi with
      | none => zv_ri 0 zS0 (s, h)
      | some v => zv_m zt_X9_readExit (zv_ev (dp + 3)) true 14 [some (.ref 116), some (.int (nI (55 + 4 * S.1.2.1))), some (.int (nI (k + 1))), some (.int (nI v))] [] zS0 (zv_w (zv_w s 116 3 (nI (p + 1))) 118 (55 + 4 * S.1.2.1 + k) (nI v), h)) := by
    intro s k p lo hi x y u hk Fs s3 hpL sn hlo hhi ex ey hrow
    subst ex; subst ey
    have e := hrow _ rfl
    have s2 : s 116 2 = nI L := (Fs.2 2 (by decide) (by decide) (by decide) (by decide)).trans hK.1
    have s7 : ∀ k, k < L → s 117 k = nI (tx k) := fun k hk => (congrFun (Fs.1 117 (by decide) (by decide)) k).trans (hK.2.1 k hk)
    rw [ev_figure (dp := dp + 1) (h := h) s2 s3 s7 hL hb hpL hlo hhi] at e
    refine e.trans ?_
    cases hd : zk_dg tx L p lo hi with
    | none => rfl
    | some v =>
      have lv := zk_dg_le hd
      simp only [Option.bind_some]
      rw [if_neg (zi_ne9 (by omega)), nI_add, zi_in (n := 101) (by omega) (by decide), nI_clamp (by omega), nI_1]
      rfl
  unfold zk_ex
  rw [if_pos hm]
  have n0 : zv_w g 116 3 (nI (S.1.2.2.1 + 1)) 118 0 = nI S.1.1 := K0.2.2.1
  have f1 := fig (zv_w g 116 3 (nI (S.1.2.2.1 + 1))) 0 (S.1.2.2.1 + 1) 0 (S.1.1 - 1) 0 (nI (S.1.1 - 1)) none (by decide) F0 (zw_same _ _ _ _) (by omega) n0 (by decide) (by omega) rfl rfl (fun z hz => by
    rw [← hz, zd_X9_readExit_14, n0, hn1]
    rfl)
  have hst1 := hst.trans f1
  cases d1 : zk_dg tx L (S.1.2.2.1 + 1) 0 (S.1.1 - 1) with
  | none =>
    rw [d1] at hst1
    exact ⟨_, F0, zw_same _ _ _ _, fun z => Bool.noConfusion z, zs_X9_readExit hst1⟩
  | some r =>
    rw [d1] at hst1
    have l1 := zk_dg_le d1
    dsimp only at hst1 ⊢
    generalize hs1 : zv_w (zv_w (zv_w g 116 3 (nI (S.1.2.2.1 + 1))) 116 3 (nI (S.1.2.2.1 + 1 + 1))) 118 (55 + 4 * S.1.2.1 + 0) (nI r) = s1 at hst1
    have F1 : zFm g s1 := by rw [← hs1]; exact zFm_trans F0 (zFm_trans (zFm_6 _ _ (by decide)) (zFm_8 _ _ _))
    have p1 : s1 116 3 = nI (S.1.2.2.1 + 2) := by rw [← hs1, zw_cell _ _ _ (by decide), zw_same]
    have v1 : ∀ k, k ≠ 55 + 4 * S.1.2.1 + 0 → s1 118 k = g 118 k := fun k hk => by rw [← hs1, zw_other _ _ _ hk, zw_cell _ _ _ (by decide), zw_cell _ _ _ (by decide)]
    have y1 : s1 118 (55 + 4 * S.1.2.1 + 0) = nI r := by rw [← hs1, zw_same]
    have f2 := fig s1 1 (S.1.2.2.1 + 2) 0 2 0 2 (some (.int (nI r))) (by decide) F1 p1 (by omega) ((v1 0 (by omega)).trans hK.2.2.1) (by decide) (by decide) rfl rfl (fun z hz => by
      rw [← hz, zd_X9_readExit_14]
      rfl)
    have hst2 := hst1.trans f2
    cases d2 : zk_dg tx L (S.1.2.2.1 + 2) 0 2 with
    | none =>
      rw [d2] at hst2
      exact ⟨_, F1, p1, fun z => Bool.noConfusion z, zs_X9_readExit hst2⟩
    | some x =>
      rw [d2] at hst2
      have l2 := zk_dg_le d2
      dsimp only at hst2 ⊢
      generalize hs2 : zv_w (zv_w s1 116 3 (nI (S.1.2.2.1 + 2 + 1))) 118 (55 + 4 * S.1.2.1 + 1) (nI x) = s2 at hst2
      have F2 : zFm g s2 := by rw [← hs2]; exact zFm_trans F1 (zFm_trans (zFm_6 _ _ (by decide)) (zFm_8 _ _ _))
      have p2 : s2 116 3 = nI (S.1.2.2.1 + 3) := by rw [← hs2, zw_cell _ _ _ (by decide), zw_same]
      have v2 : ∀ k, k ≠ 55 + 4 * S.1.2.1 + 1 → s2 118 k = s1 118 k := fun k hk => by rw [← hs2, zw_other _ _ _ hk, zw_cell _ _ _ (by decide)]
      have y2 : s2 118 (55 + 4 * S.1.2.1 + 1) = nI x := by rw [← hs2, zw_same]
      have f3 := fig s2 2 (S.1.2.2.1 + 3) 1 5 1 5 (some (.int (nI x))) (by decide) F2 p2 (by omega) ((v2 0 (by omega)).trans ((v1 0 (by omega)).trans hK.2.2.1)) (by decide) (by decide) rfl rfl (fun z hz => by
        rw [← hz, zd_X9_readExit_14]
        rfl)
      have hst3 := hst2.trans f3
      cases d3 : zk_dg tx L (S.1.2.2.1 + 3) 1 5 with
      | none =>
        rw [d3] at hst3
        exact ⟨_, F2, p2, fun z => Bool.noConfusion z, zs_X9_readExit hst3⟩
      | some y =>
        rw [d3] at hst3
        have l3 := zk_dg_le d3
        dsimp only at hst3 ⊢
        generalize hs3 : zv_w (zv_w s2 116 3 (nI (S.1.2.2.1 + 3 + 1))) 118 (55 + 4 * S.1.2.1 + 2) (nI y) = s3 at hst3
        have F3 : zFm g s3 := by rw [← hs3]; exact zFm_trans F2 (zFm_trans (zFm_6 _ _ (by decide)) (zFm_8 _ _ _))
        have p3 : s3 116 3 = nI (S.1.2.2.1 + 4) := by rw [← hs3, zw_cell _ _ _ (by decide), zw_same]
        have v3 : ∀ k, k ≠ 55 + 4 * S.1.2.1 + 2 → s3 118 k = s2 118 k := fun k hk => by rw [← hs3, zw_other _ _ _ hk, zw_cell _ _ _ (by decide)]
        have y3 : s3 118 (55 + 4 * S.1.2.1 + 2) = nI y := by rw [← hs3, zw_same]
        have f4 := fig s3 3 (S.1.2.2.1 + 4) 0 5 0 5 (some (.int (nI y))) (by decide) F3 p3 (by omega) ((v3 0 (by omega)).trans ((v2 0 (by omega)).trans ((v1 0 (by omega)).trans hK.2.2.1))) (by decide) (by decide) rfl rfl (fun z hz => by
          rw [← hz, zd_X9_readExit_14]
          rfl)
        have hst4 := hst3.trans f4
        cases d4 : zk_dg tx L (S.1.2.2.1 + 4) 0 5 with
        | none =>
          rw [d4] at hst4
          exact ⟨_, F3, p3, fun z => Bool.noConfusion z, zs_X9_readExit hst4⟩
        | some z =>
          rw [d4] at hst4
          have l4 := zk_dg_le d4
          dsimp only at hst4 ⊢
          generalize hs4 : zv_w (zv_w s3 116 3 (nI (S.1.2.2.1 + 4 + 1))) 118 (55 + 4 * S.1.2.1 + 3) (nI z) = s4 at hst4
          have F4 : zFm g s4 := by rw [← hs4]; exact zFm_trans F3 (zFm_trans (zFm_6 _ _ (by decide)) (zFm_8 _ _ _))
          have p4 : s4 116 3 = nI (S.1.2.2.1 + 5) := by rw [← hs4, zw_cell _ _ _ (by decide), zw_same]
          have v4 : ∀ k, k ≠ 55 + 4 * S.1.2.1 + 3 → s4 118 k = s3 118 k := fun k hk => by rw [← hs4, zw_other _ _ _ hk, zw_cell _ _ _ (by decide)]
          have y4 : s4 118 (55 + 4 * S.1.2.1 + 3) = nI z := by rw [← hs4, zw_same]
          have q4 : s4 116 4 = g 116 4 := by
            rw [← hs4, zw_cell _ _ _ (by decide), zw_other _ _ _ (by decide), ← hs3, zw_cell _ _ _ (by decide), zw_other _ _ _ (by decide), ← hs2, zw_cell _ _ _ (by decide), zw_other _ _ _ (by decide), ← hs1, zw_cell _ _ _ (by decide), zw_other _ _ _ (by decide), zw_other _ _ _ (by decide)]
          have e5 := hst4.trans (zd_X9_readExit_14 (zv_ev (dp + 3)) s4 h (nI (55 + 4 * S.1.2.1)) (nI 4) (some (.int (nI z))))
          have o : ∀ k, k < 55 + 4 * S.1.2.1 ∨ 58 + 4 * S.1.2.1 < k → s4 118 k = g 118 k := fun k hk => (v4 k (by omega)).trans ((v3 k (by omega)).trans ((v2 k (by omega)).trans (v1 k (by omega))))
          rw [if_pos (by decide), o 1 (by omega), hK.2.2.2.1, nI_1] at e5
          refine ⟨_, zFm_trans F4 (zFm_8 _ _ _), ?_, fun _ => ?_, zs_X9_readExit e5⟩
          · rw [zw_cell _ _ _ (by decide)]; exact p4
          · obtain ⟨b1, b2, b3, b4, b5, b6, b7, b8, b9, b10, b11, b12, b13⟩ := hK
            have oo : ∀ k, k ≠ 1 → k < 55 + 4 * S.1.2.1 ∨ 58 + 4 * S.1.2.1 < k → zv_w s4 118 1 (nI (S.1.2.1 + 1)) 118 k = g 118 k := fun k k1 hk => (zw_other _ _ _ k1).trans (o k hk)
            refine ⟨?_, fun k hk => ?_, (oo 0 (by omega) (by omega)).trans b3, zw_same _ _ _ _, ?_, ?_, fun k hk => (oo _ (by omega) (by omega)).trans (b7 k hk), fun k hk => (oo _ (by omega) (by omega)).trans (b8 k hk), fun e he => ?_, fun k k1 k2 => (oo k (by omega) (by omega)).trans (b10 k k1 k2), (oo 2 (by omega) (by omega)).trans b11, (oo 3 (by omega) (by omega)).trans b12, (oo 4 (by omega) (by omega)).trans b13⟩
            · rw [zw_cell _ _ _ (by decide)]; exact (F4.2 2 (by decide) (by decide) (by decide) (by decide)).trans b1
            · rw [zw_cell _ _ _ (by decide), F4.1 117 (by decide) (by decide)]; exact b2 k hk
            · rw [zw_cell _ _ _ (by decide)]; exact p4
            · rw [zw_cell _ _ _ (by decide), q4]; exact b6
            · have he' : e < S.1.2.1 + 1 := he
              show _ = nI (if e = S.1.2.1 then r else S.2.2.2.1 e) ∧ _ = nI (if e = S.1.2.1 then x else S.2.2.2.2.1 e) ∧ _ = nI (if e = S.1.2.1 then y else S.2.2.2.2.2.1 e) ∧ _ = nI (if e = S.1.2.1 then z else S.2.2.2.2.2.2 e)
              by_cases hem : e = S.1.2.1
              · rw [if_pos hem, if_pos hem, if_pos hem, if_pos hem, hem, zw_other _ _ _ (by omega), zw_other _ _ _ (by omega), zw_other _ _ _ (by omega), zw_other _ _ _ (by omega), v4 _ (by omega), v3 _ (by omega), v2 _ (by omega), y1, v4 _ (by omega), v3 _ (by omega), y2, v4 _ (by omega), y3, y4]
                exact ⟨rfl, rfl, rfl, rfl⟩
              · rw [if_neg hem, if_neg hem, if_neg hem, if_neg hem, oo _ (by omega) (by omega), oo _ (by omega) (by omega), oo _ (by omega) (by omega), oo _ (by omega) (by omega)]
                exact b9 e (by omega)
theorem ev_readPart (hK : zKM g tx L S) (ok : zK_ok S) (hL : L ≤ 90) (hb : ∀ k, k < L → tx k < 256) (hp : S.1.2.2.1 < L) : zkM g h tx L (zk_pt tx L S) (zv_ev (dp + 5) 147 [.ref 116] zS0 (g, h)) := by
  have ht := hb _ hp
  have h5 := ok.2.1
  have h3 := hK.2.2.2.2.1
  have hst := zd_X9_readPart (zv_ev (dp + 4)) g h
  rw [h3, zi_in (n := 90) (by omega) (by decide), nI_clamp (by omega), hK.2.1 _ hp, cond_true] at hst
  have eq : ∀ (k : Nat) (x : Int32), nI k = x → k < 256 → (nI (tx S.1.2.2.1) = x) = (tx S.1.2.2.1 = k) := fun k x hx hk => propext (zi_eqc k x hx (by omega) (by omega))
  have a5 : zv_ev (dp + 4) 142 [.ref 116, .int 5] zS0 (g, h) = zo_i (if zk_af S.2.1 S.1.1 S.1.1 = true then 1 else 0) (g, h) := ev_isAnyApart (dp := dp + 1) (h := h) (fr := 5) (w := S.2.1) hK.2.2.1 h5 (by decide) (fun k hk => hK.2.2.2.2.2.2.1 k hk) ok.2.2.2.1
  have a30 : zv_ev (dp + 4) 142 [.ref 116, .int 30] zS0 (g, h) = zo_i (if zk_af S.2.2.1 S.1.1 S.1.1 = true then 1 else 0) (g, h) := ev_isAnyApart (dp := dp + 1) (h := h) (fr := 30) (w := S.2.2.1) hK.2.2.1 h5 (by decide) (fun k hk => hK.2.2.2.2.2.2.2.1 k hk) (fun k => Nat.le_trans (ok.2.2.2.2.2.2.1 k) (by decide))
  simp only [eq 99 99 rfl (by decide), eq 101 101 rfl (by decide), eq 108 108 rfl (by decide), eq 112 112 rfl (by decide), a5, a30, Option.bind_some, hK.2.2.2.1, h3, nI_1] at hst
  have no : ∀ r : Bool × zK, r.1 = false → r.2 = S ∨ r.2 = zk_sp S S.1.2.2.1 → zv_m zt_X9_readPart (zv_ev (dp + 4)) true 0 [some (.ref 116), none, none] [] zS0 (g, h) = zv_ri 0 zS0 (g, h) → zkM g h tx L r (zv_ev (dp + 5) 147 [.ref 116] zS0 (g, h)) := by
    intro r r1 r2 e
    refine ⟨g, zFm_refl g, ?_, fun z => by rw [r1] at z; exact Bool.noConfusion z, ?_⟩
    · rcases r2 with r2 | r2
      · rw [r2]; exact h3
      · rw [r2]; exact h3
    · rw [r1]; exact zs_X9_readPart e
  have yes : ∀ (r : Bool × zK) (z : Option (zv_R × zv_D)), zkM g h tx L r z → zv_m zt_X9_readPart (zv_ev (dp + 4)) true 0 [some (.ref 116), none, none] [] zS0 (g, h) = (z.bind fun p => (bif zv_bk p.1.1 then zv_ri p.1.1 zS0 p.2 else none)) → zkM g h tx L r (zv_ev (dp + 5) 147 [.ref 116] zS0 (g, h)) := by
    rintro r z ⟨g', F, P, K, rfl⟩ e
    refine ⟨g', F, P, K, zs_X9_readPart (e.trans ?_)⟩
    cases r.1 <;> rfl
  have tw : ∀ w, ¬ zk_af w S.1.1 S.1.1 = true → zk_tw tx L w S.1.1 S.1.2.2.1 = .inl S.1.2.2.1 := fun w hw => by unfold zk_tw; rw [if_neg hw]
  unfold zk_pt
  by_cases c1 : tx S.1.2.2.1 = 99
  · rw [if_pos c1] at hst ⊢
    by_cases qa : zk_af S.2.2.1 S.1.1 S.1.1 = true
    · rw [if_pos qa, if_neg (show ¬ (1 : Int32) = 0 by decide), if_neg (by omega), if_neg (by omega), if_neg (by omega)] at hst
      exact yes _ _ (ev_readSession (dp := dp) (h := h) hK ok hL hb hp qa false) hst
    · rw [if_neg qa, if_pos rfl] at hst
      have e : zk_se tx L S 2 3 = (false, zk_sp S S.1.2.2.1) := by unfold zk_se; rw [tw _ qa]
      rw [e]
      exact no _ rfl (Or.inr rfl) hst
  rw [if_neg c1] at hst ⊢
  by_cases c2 : tx S.1.2.2.1 = 101
  · rw [if_pos c2, if_neg (show ¬ tx S.1.2.2.1 = 108 by omega)] at hst
    rw [if_pos c2]
    by_cases qm : S.1.2.1 < 4
    · rw [if_neg (zi_ge 4 4 rfl qm (by decide)), if_pos c2] at hst
      exact yes _ _ (ev_readExit (dp := dp) (h := h) hK ok hL hb hp qm) hst
    · have m4 := ok.2.2.1
      rw [if_pos (zi_le 4 4 rfl (by omega) (by omega))] at hst
      have e : zk_ex tx L S = (false, S) := by unfold zk_ex; rw [if_neg qm]
      rw [e]
      exact no _ rfl (Or.inl rfl) hst
  rw [if_neg c2] at hst ⊢
  by_cases c3 : tx S.1.2.2.1 = 108
  · rw [if_pos c3] at hst ⊢
    by_cases qa : zk_af S.2.1 S.1.1 S.1.1 = true
    · rw [if_pos qa, if_neg (show ¬ (1 : Int32) = 0 by decide), if_pos c3] at hst
      exact yes _ _ (ev_readLink (dp := dp) (h := h) hK ok hL hb hp qa) hst
    · rw [if_neg qa, if_pos rfl] at hst
      have e : zk_li tx L S = (false, zk_sp S S.1.2.2.1) := by unfold zk_li; rw [tw _ qa]
      rw [e]
      exact no _ rfl (Or.inr rfl) hst
  rw [if_neg c3] at hst ⊢
  by_cases c4 : tx S.1.2.2.1 = 112
  · rw [if_pos c4] at hst ⊢
    by_cases qa : zk_af S.2.2.1 S.1.1 S.1.1 = true
    · rw [if_pos qa, if_neg (show ¬ (1 : Int32) = 0 by decide), if_neg c3, if_neg c2, if_pos c4] at hst
      exact yes _ _ (ev_readSession (dp := dp) (h := h) hK ok hL hb hp qa true) hst
    · rw [if_neg qa, if_pos rfl] at hst
      have e : zk_se tx L S 1 1 = (false, zk_sp S S.1.2.2.1) := by unfold zk_se; rw [tw _ qa]
      rw [e]
      exact no _ rfl (Or.inr rfl) hst
  rw [if_neg c4] at hst ⊢
  exact no _ rfl (Or.inl rfl) hst
end RE
