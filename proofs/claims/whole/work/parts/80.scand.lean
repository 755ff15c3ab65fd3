/-- what a part's scan comes to -/
def zkR (g : Nat → Nat → Int32) (h : Nat → Nat → Int64) (tx : Nat → Nat) (L : Nat) (r : Bool × zK) (z : Option (zv_R × zv_D)) : Prop := ∃ g', zFs g g' ∧ zKC g' tx L r.2 ∧ z = zo_i (if r.1 = true then 1 else 0) (g', h)
section SD
variable {dp : Nat} {g : Nat → Nat → Int32} {h : Nat → Nat → Int64} {tx : Nat → Nat} {L : Nat} {S : zK}
theorem zKC_co (hK : zKC g tx L S) {i j v : Nat} (hi : i < 5) (hj : j < 5) {p q : Nat} (hp : g 1 11 = nI p) (hq : g 1 4 = nI q) : zKC (zv_w (zv_w g 3 (5 * i + j) (nI v)) 3 (5 * j + i) (nI v)) tx L ((S.1.1, S.1.2.1, p, q), zk_pu S.2.1 i j v v, S.2.2) := by
  obtain ⟨h1, h2, h3, h4, h5, h6, h7, h8, h9⟩ := hK
  have fr : ∀ x, x ≠ 3 → zv_w (zv_w g 3 (5 * i + j) (nI v)) 3 (5 * j + i) (nI v) x = g x := fun x hx => (zw_cell _ _ _ hx).trans (zw_cell _ _ _ hx)
  refine ⟨by rw [fr 1 (by decide)]; exact h1, by rw [fr 2 (by decide)]; exact h2, by rw [fr 1 (by decide)]; exact h3, by rw [fr 1 (by decide)]; exact h4, by rw [fr 1 (by decide)]; exact hp, by rw [fr 1 (by decide)]; exact hq, fun k hk => ?_, by rw [fr 4 (by decide)]; exact h8, fun e he => ?_⟩
  · show _ = nI (if k = 5 * j + i then v else if k = 5 * i + j then v else S.2.1 k)
    by_cases q1 : k = 5 * j + i
    · rw [q1, zw_same, if_pos rfl]
    · rw [zw_other _ _ _ q1, if_neg q1]
      by_cases q2 : k = 5 * i + j
      · rw [q2, zw_same, if_pos rfl]
      · rw [zw_other _ _ _ q2, if_neg q2]; exact h7 k hk
  · rw [fr 5 (by decide), fr 6 (by decide), fr 7 (by decide), fr 8 (by decide)]; exact h9 e he
theorem zKC_se (hK : zKC g tx L S) {i j a b : Nat} (hi : i < 5) (hj : j < 5) {p q : Nat} (hp : g 1 11 = nI p) (hq : g 1 4 = nI q) : zKC (zv_w (zv_w g 4 (5 * i + j) (nI a)) 4 (5 * j + i) (nI b)) tx L ((S.1.1, S.1.2.1, p, q), S.2.1, zk_pu S.2.2.1 i j a b, S.2.2.2) := by
  obtain ⟨h1, h2, h3, h4, h5, h6, h7, h8, h9⟩ := hK
  have fr : ∀ x, x ≠ 4 → zv_w (zv_w g 4 (5 * i + j) (nI a)) 4 (5 * j + i) (nI b) x = g x := fun x hx => (zw_cell _ _ _ hx).trans (zw_cell _ _ _ hx)
  refine ⟨by rw [fr 1 (by decide)]; exact h1, by rw [fr 2 (by decide)]; exact h2, by rw [fr 1 (by decide)]; exact h3, by rw [fr 1 (by decide)]; exact h4, by rw [fr 1 (by decide)]; exact hp, by rw [fr 1 (by decide)]; exact hq, by rw [fr 3 (by decide)]; exact h7, fun k hk => ?_, fun e he => ?_⟩
  · show _ = nI (if k = 5 * j + i then b else if k = 5 * i + j then a else S.2.2.1 k)
    by_cases q1 : k = 5 * j + i
    · rw [q1, zw_same, if_pos rfl]
    · rw [zw_other _ _ _ q1, if_neg q1]
      by_cases q2 : k = 5 * i + j
      · rw [q2, zw_same, if_pos rfl]
      · rw [zw_other _ _ _ q2, if_neg q2]; exact h8 k hk
  · rw [fr 5 (by decide), fr 6 (by decide), fr 7 (by decide), fr 8 (by decide)]; exact h9 e he
theorem ev_scanLink (hK : zKC g tx L S) (ok : zK_ok S) (hL : L ≤ 90) (hb : ∀ k, k < L → tx k < 256) (hp : S.1.2.2.1 < 800) : zkR g h tx L (zk_li tx L S) (zv_ev (dp + 5) 32 [.ref 1] zS0 (g, h)) := by
  have h5 := ok.2.1
  obtain ⟨g1, F1, K1, r1⟩ := ev_scanPair_3 (dp := dp) (h := h) hK ok hL hb (by omega) ok.2.2.2.1 (fun g' S' hK' e k hk => by rw [← e]; exact hK'.2.2.2.2.2.2.1 k hk)
  have hst := zd_X4_scanLink (zv_ev (dp + 4)) g h
  rw [r1] at hst
  simp only [Option.bind_some] at hst
  unfold zk_li
  cases hq : zk_tw tx L S.2.1 S.1.1 S.1.2.2.1 with
  | inl e =>
    rw [hq] at hst K1
    exact ⟨g1, F1, K1, zs_X4_scanLink hst⟩
  | inr q =>
    rw [hq] at hst K1
    dsimp only at hst K1
    obtain ⟨q1, q2, q3, -⟩ := zk_tw_ok ok.1 hq
    have d1 := ev_digit (dp := dp + 2) (h := h) (lo := 1) (hi := 9) K1 hL hb (by show S.1.2.2.1 + 3 < _; omega) (by decide) (by decide)
    have d1' : zv_ev (dp + 4) 41 [.ref 1, .int 1, .int 9] zS0 (g1, h) = _ := d1
    rw [if_neg (zi_ne1 (by omega)), d1'] at hst
    have e1 : (zk_sp S (S.1.2.2.1 + 3)).1.2.2.1 = S.1.2.2.1 + 3 := rfl
    rw [e1] at hst
    dsimp only
    cases hd : zk_dg tx L (S.1.2.2.1 + 3) 1 9 with
    | none =>
      rw [hd] at hst
      exact ⟨g1, F1, K1, zs_X4_scanLink hst⟩
    | some v =>
      rw [hd] at hst
      have lv := zk_dg_le hd
      simp only [Option.bind_some] at hst
      have K2 := zKC_p K1 (S.1.2.2.1 + 3 + 1)
      rw [if_neg (zi_ne1 (by omega)), ev_setPair_3 (dp := dp + 3) (h := h) (i := q.1) (j := q.2) (by omega) (by omega)] at hst
      exact ⟨_, zFs_trans F1 (zFs_trans (zFs_1 _ _ (by decide)) (zFs_trans (zFs_c _ _ _ (by decide)) (zFs_c _ _ _ (by decide)))), zKC_co K2 (by omega) (by omega) K2.2.2.2.2.1 K2.2.2.2.2.2.1, zs_X4_scanLink hst⟩
theorem ev_scanSession (hK : zKC g tx L S) (ok : zK_ok S) (hL : L ≤ 90) (hb : ∀ k, k < L → tx k < 256) (hp : S.1.2.2.1 < 800) (a b : Nat) : zkR g h tx L (zk_se tx L S a b) (zv_ev (dp + 5) 33 [.ref 1, .int (nI a), .int (nI b)] zS0 (g, h)) := by
  have h5 := ok.2.1
  obtain ⟨g1, F1, K1, r1⟩ := ev_scanPair_4 (dp := dp) (h := h) hK ok hL hb (by omega) (fun k => Nat.le_trans (ok.2.2.2.2.2.2.1 k) (by decide)) (fun g' S' hK' e k hk => by rw [← e]; exact hK'.2.2.2.2.2.2.2.1 k hk)
  have hst := zd_X4_scanSession (zv_ev (dp + 4)) g h (nI a) (nI b)
  rw [r1] at hst
  simp only [Option.bind_some] at hst
  unfold zk_se
  cases hq : zk_tw tx L S.2.2.1 S.1.1 S.1.2.2.1 with
  | inl e =>
    rw [hq] at hst K1
    exact ⟨g1, F1, K1, zs_X4_scanSession hst⟩
  | inr q =>
    rw [hq] at hst K1
    dsimp only at hst K1
    obtain ⟨q1, q2, q3, -⟩ := zk_tw_ok ok.1 hq
    rw [if_neg (zi_ne1 (by omega)), ev_setPair_4 (dp := dp + 3) (h := h) (i := q.1) (j := q.2) (by omega) (by omega)] at hst
    exact ⟨_, zFs_trans F1 (zFs_trans (zFs_c _ _ _ (by decide)) (zFs_c _ _ _ (by decide))), zKC_se K1 (by omega) (by omega) K1.2.2.2.2.1 K1.2.2.2.2.2.1, zs_X4_scanSession hst⟩
theorem ev_scanExit (hK : zKC g tx L S) (ok : zK_ok S) (hL : L ≤ 90) (hb : ∀ k, k < L → tx k < 256) (hp : S.1.2.2.1 < 800) : zkR g h tx L (zk_ex tx L S) (zv_ev (dp + 5) 34 [.ref 1] zS0 (g, h)) := by
  have h5 := ok.2.1
  have h1 := ok.1
  have hn1 : nI S.1.1 - 1 = nI (S.1.1 - 1) := pk_sub (a := S.1.1) (b := 1) h1
  have hst := zd_X4_scanExit (zv_ev (dp + 4)) g h
  unfold zk_ex
  rw [hK.2.2.2.1] at hst
  by_cases hm : S.1.2.1 < 4
  · have K1 := zKC_p hK (S.1.2.2.1 + 1)
    have F1 : zFs g (zv_w g 1 11 (nI (S.1.2.2.1 + 1))) := zFs_1 _ _ (by decide)
    rw [if_pos (show nI S.1.2.1 < 4 from nI_lt (b := 4) hm (by decide)), hK.2.2.2.2.1, nI_1, zw_other _ _ _ (by decide), hK.2.2.1, hn1] at hst
    rw [if_pos hm]
    have dg : ∀ (s : Nat → Nat → Int32) (S' : zK) (lo hi : Nat) (x y : Int32), zKC s tx L S' → S'.1.2.2.1 < 900 → lo < 10 → hi < 10 → nI lo = x → nI hi = y → zv_ev (dp + 4) 41 [.ref 1, .int x, .int y] zS0 (s, h) = (match zk_dg tx L S'.1.2.2.1 lo hi with
      | none => zo_i (-1) (s, h)
      | some v => zo_i (nI v) (zv_w s 1 11 (nI (S'.1.2.2.1 + 1)), h)) := by
      intro s S' lo hi x y hs hp' h1 h2 ex ey
      subst ex; subst ey
      exact ev_digit (dp := dp + 2) (h := h) hs hL hb (by omega) h1 h2
    rw [dg _ _ 0 (S.1.1 - 1) 0 (nI (S.1.1 - 1)) K1 (by show S.1.2.2.1 + 1 < _; omega) (by decide) (by omega) rfl rfl, show (zk_sp S (S.1.2.2.1 + 1)).1.2.2.1 = S.1.2.2.1 + 1 from rfl] at hst
    cases d1 : zk_dg tx L (S.1.2.2.1 + 1) 0 (S.1.1 - 1) with
    | none =>
      rw [d1] at hst
      exact ⟨_, F1, K1, zs_X4_scanExit hst⟩
    | some r =>
      rw [d1] at hst
      have l1 := zk_dg_le d1
      have K2 := zKC_p K1 (S.1.2.2.1 + 1 + 1)
      have F2 := zFs_trans F1 (zFs_1 (zv_w g 1 11 (nI (S.1.2.2.1 + 1))) (q := 11) (nI (S.1.2.2.1 + 1 + 1)) (by decide))
      simp only [Option.bind_some] at hst
      rw [if_neg (zi_ne1 (by omega)), dg _ _ 0 2 0 2 K2 (by show S.1.2.2.1 + 1 + 1 < _; omega) (by decide) (by decide) rfl rfl, show (zk_sp (zk_sp S (S.1.2.2.1 + 1)) (S.1.2.2.1 + 1 + 1)).1.2.2.1 = S.1.2.2.1 + 2 from rfl] at hst
      dsimp only
      cases d2 : zk_dg tx L (S.1.2.2.1 + 2) 0 2 with
      | none =>
        rw [d2] at hst
        exact ⟨_, F2, K2, zs_X4_scanExit hst⟩
      | some x =>
        rw [d2] at hst
        have l2 := zk_dg_le d2
        have K3 := zKC_p K2 (S.1.2.2.1 + 2 + 1)
        have F3 := zFs_trans F2 (zFs_1 (zv_w (zv_w g 1 11 (nI (S.1.2.2.1 + 1))) 1 11 (nI (S.1.2.2.1 + 1 + 1))) (q := 11) (nI (S.1.2.2.1 + 2 + 1)) (by decide))
        simp only [Option.bind_some] at hst
        rw [if_neg (zi_ne1 (by omega)), dg _ _ 1 5 1 5 K3 (by show S.1.2.2.1 + 2 + 1 < _; omega) (by decide) (by decide) rfl rfl, show (zk_sp (zk_sp (zk_sp S (S.1.2.2.1 + 1)) (S.1.2.2.1 + 1 + 1)) (S.1.2.2.1 + 2 + 1)).1.2.2.1 = S.1.2.2.1 + 3 from rfl] at hst
        dsimp only
        cases d3 : zk_dg tx L (S.1.2.2.1 + 3) 1 5 with
        | none =>
          rw [d3] at hst
          exact ⟨_, F3, K3, zs_X4_scanExit hst⟩
        | some y =>
          rw [d3] at hst
          have l3 := zk_dg_le d3
          have K4 := zKC_p K3 (S.1.2.2.1 + 3 + 1)
          have F4 := zFs_trans F3 (zFs_1 (zv_w (zv_w (zv_w g 1 11 (nI (S.1.2.2.1 + 1))) 1 11 (nI (S.1.2.2.1 + 1 + 1))) 1 11 (nI (S.1.2.2.1 + 2 + 1))) (q := 11) (nI (S.1.2.2.1 + 3 + 1)) (by decide))
          simp only [Option.bind_some] at hst
          rw [if_neg (zi_ne1 (by omega)), dg _ _ 0 5 0 5 K4 (by show S.1.2.2.1 + 3 + 1 < _; omega) (by decide) (by decide) rfl rfl, show (zk_sp (zk_sp (zk_sp (zk_sp S (S.1.2.2.1 + 1)) (S.1.2.2.1 + 1 + 1)) (S.1.2.2.1 + 2 + 1)) (S.1.2.2.1 + 3 + 1)).1.2.2.1 = S.1.2.2.1 + 4 from rfl] at hst
          dsimp only
          cases d4 : zk_dg tx L (S.1.2.2.1 + 4) 0 5 with
          | none =>
            rw [d4] at hst
            exact ⟨_, F4, K4, zs_X4_scanExit hst⟩
          | some z =>
            rw [d4] at hst
            have l4 := zk_dg_le d4
            have K5 := zKC_p K4 (S.1.2.2.1 + 4 + 1)
            have F5 := zFs_trans F4 (zFs_1 (zv_w (zv_w (zv_w (zv_w g 1 11 (nI (S.1.2.2.1 + 1))) 1 11 (nI (S.1.2.2.1 + 1 + 1))) 1 11 (nI (S.1.2.2.1 + 2 + 1))) 1 11 (nI (S.1.2.2.1 + 3 + 1))) (q := 11) (nI (S.1.2.2.1 + 4 + 1)) (by decide))
            simp only [Option.bind_some] at hst
            rw [if_neg (zi_ne1 (by omega))] at hst
            generalize zv_w (zv_w (zv_w (zv_w (zv_w g 1 11 (nI (S.1.2.2.1 + 1))) 1 11 (nI (S.1.2.2.1 + 1 + 1))) 1 11 (nI (S.1.2.2.1 + 2 + 1))) 1 11 (nI (S.1.2.2.1 + 3 + 1))) 1 11 (nI (S.1.2.2.1 + 4 + 1)) = s at hst K5 F5
            have m0 : s 1 3 = nI S.1.2.1 := K5.2.2.2.1
            have m1 : ∀ v, zv_w s 5 S.1.2.1 v 1 3 = nI S.1.2.1 := fun v => (congrFun (zw_cell _ _ _ (by decide)) 3).trans m0
            have m2 : ∀ v u, zv_w (zv_w s 5 S.1.2.1 v) 6 S.1.2.1 u 1 3 = nI S.1.2.1 := fun v u => (congrFun (zw_cell _ _ _ (by decide)) 3).trans (m1 v)
            have m3 : ∀ v u t, zv_w (zv_w (zv_w s 5 S.1.2.1 v) 6 S.1.2.1 u) 7 S.1.2.1 t 1 3 = nI S.1.2.1 := fun v u t => (congrFun (zw_cell _ _ _ (by decide)) 3).trans (m2 v u)
            have m4 : ∀ v u t o, zv_w (zv_w (zv_w (zv_w s 5 S.1.2.1 v) 6 S.1.2.1 u) 7 S.1.2.1 t) 8 S.1.2.1 o 1 3 = nI S.1.2.1 := fun v u t o => (congrFun (zw_cell _ _ _ (by decide)) 3).trans (m3 v u t)
            rw [m0, zi_in hm (by decide), nI_clamp (by omega), m1, zi_in hm (by decide), nI_clamp (by omega), m2, zi_in hm (by decide), nI_clamp (by omega), m3, zi_in hm (by decide), nI_clamp (by omega), m4, nI_1] at hst
            simp only [cond_true] at hst
            refine ⟨_, zFs_trans F5 (zFs_trans (zFs_c _ _ _ (by decide)) (zFs_trans (zFs_c _ _ _ (by decide)) (zFs_trans (zFs_c _ _ _ (by decide)) (zFs_trans (zFs_c _ _ _ (by decide)) (zFs_1 _ _ (by decide)))))), ?_, zs_X4_scanExit hst⟩
            have b1 : s 1 1 = nI L := K5.1
            have b2 : ∀ k, k < L → s 2 k = nI (tx k) := K5.2.1
            have b3 : s 1 2 = nI S.1.1 := K5.2.2.1
            have b5 : s 1 11 = nI (S.1.2.2.1 + 5) := K5.2.2.2.2.1
            have b6 : s 1 4 = nI S.1.2.2.2 := K5.2.2.2.2.2.1
            have b7 : ∀ k, k < 25 → s 3 k = nI (S.2.1 k) := K5.2.2.2.2.2.2.1
            have b8 : ∀ k, k < 25 → s 4 k = nI (S.2.2.1 k) := K5.2.2.2.2.2.2.2.1
            have b9 : ∀ e, e < 4 → s 5 e = nI (S.2.2.2.1 e) ∧ s 6 e = nI (S.2.2.2.2.1 e) ∧ s 7 e = nI (S.2.2.2.2.2.1 e) ∧ s 8 e = nI (S.2.2.2.2.2.2 e) := K5.2.2.2.2.2.2.2.2
            refine ⟨?_, fun k hk => ?_, ?_, zw_same _ _ _ _, ?_, ?_, fun k hk => ?_, fun k hk => ?_, fun e he => ?_⟩
            · simp only [zw_at]; simpa using b1
            · simp only [zw_at]; simpa using b2 k hk
            · simp only [zw_at]; simpa using b3
            · simp only [zw_at]; simpa using b5
            · simp only [zw_at]; simpa using b6
            · simp only [zw_at]; simpa using b7 k hk
            · simp only [zw_at]; simpa using b8 k hk
            · have q9 := b9 e he
              show _ = nI (if e = S.1.2.1 then r else S.2.2.2.1 e) ∧ _ = nI (if e = S.1.2.1 then x else S.2.2.2.2.1 e) ∧ _ = nI (if e = S.1.2.1 then y else S.2.2.2.2.2.1 e) ∧ _ = nI (if e = S.1.2.1 then z else S.2.2.2.2.2.2 e)
              by_cases hem : e = S.1.2.1
              · simp [zw_at, hem]
              · simp only [zw_at, if_neg hem]
                simpa [hem] using q9
  · rw [if_neg (show ¬ nI S.1.2.1 < 4 from nI_nlt (b := 4) (by omega) (by have := ok.2.2.1; omega))] at hst
    rw [if_neg hm]
    exact ⟨g, zFs_refl g, hK, zs_X4_scanExit hst⟩
end SD
