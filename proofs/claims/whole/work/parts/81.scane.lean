section SE
variable {dp : Nat} {g : Nat → Nat → Int32} {h : Nat → Nat → Int64} {tx : Nat → Nat} {L : Nat} {S : zK}
theorem ev_scanPart (hK : zKC g tx L S) (ok : zK_ok S) (hL : L ≤ 90) (hb : ∀ k, k < L → tx k < 256) (hp : S.1.2.2.1 < L) : zkR g h tx L (zk_pt tx L S) (zv_ev (dp + 6) 31 [.ref 1] zS0 (g, h)) := by
  have ht := hb _ hp
  have hst := zd_X4_scanPart (zv_ev (dp + 5)) g h
  rw [ev_sign (dp := dp + 4) (h := h) hK hL (by omega), if_pos hp] at hst
  simp only [Option.bind_some] at hst
  have eq : ∀ (k : Nat) (x : Int32), nI k = x → k < 256 → ((nI (tx S.1.2.2.1) = x) ↔ tx S.1.2.2.1 = k) := fun k x hx hk => zi_eqc k x hx (by omega) (by omega)
  have fin : ∀ (r : Bool × zK) (z : Option (zv_R × zv_D)), zkR g h tx L r z → ∀ w, w = (z.bind fun p => (bif zv_bk p.1.1 then zv_ri p.1.1 zS0 p.2 else none)) → ∃ g', zFs g g' ∧ zKC g' tx L r.2 ∧ w = zv_ri (if r.1 = true then 1 else 0) zS0 (g', h) := by
    rintro r z ⟨g', F, K, rfl⟩ w rfl
    refine ⟨g', F, K, ?_⟩
    cases r.1 <;> rfl
  unfold zk_pt
  by_cases c1 : tx S.1.2.2.1 = 99
  · rw [if_pos ((eq 99 99 rfl (by decide)).mpr c1)] at hst
    rw [if_pos c1]
    obtain ⟨g', F, K, e⟩ := fin _ _ (ev_scanSession (dp := dp) (h := h) hK ok hL hb (by omega) 2 3) _ hst
    exact ⟨g', F, K, zs_X4_scanPart e⟩
  rw [if_neg (fun z => c1 ((eq 99 99 rfl (by decide)).mp z))] at hst
  rw [if_neg c1]
  by_cases c2 : tx S.1.2.2.1 = 101
  · rw [if_pos ((eq 101 101 rfl (by decide)).mpr c2)] at hst
    rw [if_pos c2]
    obtain ⟨g', F, K, e⟩ := fin _ _ (ev_scanExit (dp := dp) (h := h) hK ok hL hb (by omega)) _ hst
    exact ⟨g', F, K, zs_X4_scanPart e⟩
  rw [if_neg (fun z => c2 ((eq 101 101 rfl (by decide)).mp z))] at hst
  rw [if_neg c2]
  by_cases c3 : tx S.1.2.2.1 = 108
  · rw [if_pos ((eq 108 108 rfl (by decide)).mpr c3)] at hst
    rw [if_pos c3]
    obtain ⟨g', F, K, e⟩ := fin _ _ (ev_scanLink (dp := dp) (h := h) hK ok hL hb (by omega)) _ hst
    exact ⟨g', F, K, zs_X4_scanPart e⟩
  rw [if_neg (fun z => c3 ((eq 108 108 rfl (by decide)).mp z))] at hst
  rw [if_neg c3]
  by_cases c4 : tx S.1.2.2.1 = 112
  · rw [if_pos ((eq 112 112 rfl (by decide)).mpr c4)] at hst
    rw [if_pos c4]
    obtain ⟨g', F, K, e⟩ := fin _ _ (ev_scanSession (dp := dp) (h := h) hK ok hL hb (by omega) 1 1) _ hst
    exact ⟨g', F, K, zs_X4_scanPart e⟩
  rw [if_neg (fun z => c4 ((eq 112 112 rfl (by decide)).mp z))] at hst
  rw [if_neg c4]
  exact ⟨g, zFs_refl g, hK, zs_X4_scanPart hst⟩
theorem zKC_q (hK : zKC g tx L S) : zKC (zv_w g 1 4 (nI (S.1.2.2.2 + 1))) tx L (zk_q1 S) := by
  obtain ⟨h1, h2, h3, h4, h5, h6, h7, h8, h9⟩ := hK
  refine ⟨(zw_other _ _ _ (by decide)).trans h1, fun k hk => (congrFun (zw_cell _ _ _ (by decide)) k).trans (h2 k hk), (zw_other _ _ _ (by decide)).trans h3, (zw_other _ _ _ (by decide)).trans h4, (zw_other _ _ _ (by decide)).trans h5, zw_same _ _ _ _, fun k hk => (congrFun (zw_cell _ _ _ (by decide)) k).trans (h7 k hk), fun k hk => (congrFun (zw_cell _ _ _ (by decide)) k).trans (h8 k hk), fun e he => ?_⟩
  rw [zw_cell _ _ _ (by decide), zw_cell _ _ _ (by decide), zw_cell _ _ _ (by decide), zw_cell _ _ _ (by decide)]
  exact h9 e he
end SE
theorem zK_ok0 {tx : Nat → Nat} (hS : ∀ e, e < 4 → tx (100 + e) < 5 ∧ tx (104 + e) ≤ 2 ∧ tx (108 + e) ≤ 5 ∧ tx (112 + e) ≤ 5) {n : Nat} (h1 : 1 ≤ n) (h5 : n ≤ 5) : zK_ok ((n, 0, 2, 0), fun _ => 0, fun _ => 0, zk_s0 tx) := by
  refine ⟨h1, h5, Nat.zero_le _, fun _ => Nat.zero_le _, fun _ _ _ _ _ => rfl, fun _ _ _ _ => rfl, fun _ => Nat.zero_le _, fun _ _ _ _ _ => rfl, fun _ _ _ _ z => absurd rfl z, fun e => ?_, fun e he => absurd he (Nat.not_lt_zero e), fun e => ?_, fun e => ?_, fun e => ?_⟩
  · show (if e < 4 then tx (100 + e) else 0) < 5
    split
    · rename_i q; exact (hS e q).1
    · decide
  · show (if e < 4 then tx (104 + e) else 0) ≤ 2
    split
    · rename_i q; exact (hS e q).2.1
    · decide
  · show (if e < 4 then tx (108 + e) else 0) ≤ 5
    split
    · rename_i q; exact (hS e q).2.2.1
    · decide
  · show (if e < 4 then tx (112 + e) else 0) ≤ 5
    split
    · rename_i q; exact (hS e q).2.2.2
    · decide
theorem ev_scan {dp : Nat} {g : Nat → Nat → Int32} {h : Nat → Nat → Int64} {t : (Nat → Nat) × Nat} (hb2 : zb2 g t) (hL : t.2 ≤ 90) (hb : ∀ k, k < t.2 → t.1 k < 256) (hS : ∀ e, e < 4 → t.1 (100 + e) < 5 ∧ t.1 (104 + e) ≤ 2 ∧ t.1 (108 + e) ≤ 5 ∧ t.1 (112 + e) ≤ 5) : ∃ g', zFs g g' ∧ zKC g' t.1 t.2 (zk_sc t.1 t.2).2 ∧ zv_ev (dp + 7) 29 [.ref 1] zS0 (g, h) = zo_i (if (zk_sc t.1 t.2).1 = true then -1 else nI (zk_sc t.1 t.2).2.1.2.2.1) (g', h) := by
  obtain ⟨tx, L⟩ := t
  dsimp only at hL hb hS ⊢
  have hst := zd_X4_scan (zv_ev (dp + 6)) g h
  obtain ⟨g1, f1, n1, r1⟩ := ev_fill_3 (dp := dp + 5) (zv_w (zv_w (zv_w (zv_w g 1 11 0) 1 2 0) 1 3 0) 1 4 0, h) 0
  dsimp only at f1 r1
  obtain ⟨g2, f2, n2, r2⟩ := ev_fill_4 (dp := dp + 5) (g1, h) 0
  dsimp only at f2 r2
  rw [r1] at hst
  simp only [Option.bind_some] at hst
  rw [r2] at hst
  simp only [Option.bind_some] at hst
  have w0 : ∀ x, x ≠ 1 → zv_w (zv_w (zv_w (zv_w g 1 11 0) 1 2 0) 1 3 0) 1 4 0 x = g x := fun x hx => (zw_cell _ _ _ hx).trans ((zw_cell _ _ _ hx).trans ((zw_cell _ _ _ hx).trans (zw_cell _ _ _ hx)))
  have e1 : g2 1 = zv_w (zv_w (zv_w (zv_w g 1 11 0) 1 2 0) 1 3 0) 1 4 0 1 := (f2 1 (by decide)).trans (f1 1 (by decide))
  have fr : ∀ x, x ≠ 1 → x ≠ 3 → x ≠ 4 → g2 x = g x := fun x h1 h2 h3 => (f2 x h3).trans ((f1 x h2).trans (w0 x h1))
  have F0 : zFs g g2 := ⟨fun x hx => fr x (by omega) (by omega) (by omega), by rw [e1]; simp [zw_at]⟩
  have K0 : zKC g2 tx L ((0, 0, 0, 0), fun _ => 0, fun _ => 0, zk_s0 tx) := by
    refine ⟨F0.2.trans hb2.1, fun k hk => (congrFun (fr 2 (by decide) (by decide) (by decide)) k).trans (hb2.2.1 k hk), by rw [e1]; simp [zw_at]; rfl, by rw [e1]; simp [zw_at]; rfl, by rw [e1]; simp [zw_at]; rfl, by rw [e1]; simp [zw_at]; rfl, fun k hk => (congrFun (f2 3 (by decide)) k).trans (n1 k hk), fun k hk => n2 k hk, fun e he => ?_⟩
    rw [fr 5 (by decide) (by decide) (by decide), fr 6 (by decide) (by decide) (by decide), fr 7 (by decide) (by decide) (by decide), fr 8 (by decide) (by decide) (by decide)]
    have q := hb2.2.2 e he
    simp only [zk_s0, if_pos he]
    exact q
  have hh := zd_X4_scanHead (zv_ev (dp + 5)) g2 h
  rw [ev_sign (dp := dp + 4) (h := h) K0 hL (show 0 < 1000 by decide)] at hh
  simp only [Option.bind_some] at hh
  unfold zk_sc
  by_cases hD : L = 0 ∨ tx 0 ≠ 68
  · have hne : ¬ (if 0 < L then nI (tx 0) else -1) = 68 := by
      by_cases h0 : 0 < L
      · rw [if_pos h0]
        have := hb 0 h0
        rcases hD with q | q
        · omega
        · exact fun z => q ((zi_eqc 68 68 rfl (by omega) (by decide)).mp z)
      · rw [if_neg h0]; decide
    rw [if_neg hne] at hh
    rw [zs_X4_scanHead hh] at hst
    simp only [Option.bind_some] at hst
    rw [if_pos trivial, K0.2.2.2.2.1] at hst
    rw [if_pos hD]
    exact ⟨g2, F0, K0, zs_X4_scan hst⟩
  · have h0 : 0 < L := Nat.pos_of_ne_zero fun q => hD (Or.inl q)
    have h68 : tx 0 = 68 := Classical.byContradiction fun q => hD (Or.inr q)
    rw [if_pos h0, if_pos (show nI (tx 0) = 68 by rw [h68]; rfl), K0.2.2.2.2.1] at hh
    have K1 := zKC_p K0 1
    have F1 : zFs g (zv_w g2 1 11 (nI 1)) := zFs_trans F0 (zFs_1 _ _ (by decide))
    have d1 := ev_digit (dp := dp + 3) (h := h) (lo := 1) (hi := 5) K1 hL hb (show 1 < 1000 by decide) (by decide) (by decide)
    have d1' : zv_ev (dp + 5) 41 [.ref 1, .int 1, .int 5] zS0 (zv_w g2 1 11 (nI (0 : Nat) + 1), h) = _ := d1
    have e1' : (zk_sp (((0 : Nat), (0 : Nat), (0 : Nat), (0 : Nat)), ((fun _ => 0 : Nat → Nat), (fun _ => 0 : Nat → Nat), zk_s0 tx)) 1).1.2.2.1 = 1 := rfl
    rw [e1'] at d1'
    rw [if_neg hD]
    cases hd : zk_dg tx L 1 1 5 with
    | none =>
      rw [hd] at d1'
      have hh' : zv_m zt_X4_scanHead (zv_ev (dp + 5)) true 0 [some (.ref 1), none] [] zS0 (g2, h) = zv_ri 0 zS0 (zv_w g2 1 11 (nI 1), h) := by
        refine hh.trans ?_
        show ((zv_ev (dp + 5) 41 [.ref 1, .int 1, .int 5] zS0 (zv_w g2 1 11 (nI (0 : Nat) + 1), h)).bind fun p3 => _) = _
        rw [d1']
        rfl
      rw [zs_X4_scanHead hh'] at hst
      simp only [Option.bind_some] at hst
      rw [if_pos trivial, zw_same] at hst
      exact ⟨_, F1, K1, zs_X4_scan hst⟩
    | some n =>
      rw [hd] at d1'
      have ln := zk_dg_le hd
      have hh' : zv_m zt_X4_scanHead (zv_ev (dp + 5)) true 0 [some (.ref 1), none] [] zS0 (g2, h) = zv_ri 1 zS0 (zv_w (zv_w (zv_w g2 1 11 (nI 1)) 1 11 (nI 2)) 1 2 (nI n), h) := by
        refine hh.trans ?_
        show ((zv_ev (dp + 5) 41 [.ref 1, .int 1, .int 5] zS0 (zv_w g2 1 11 (nI (0 : Nat) + 1), h)).bind fun p3 => _) = _
        rw [d1']
        simp only [Option.bind_some]
        rw [if_neg (zi_ne1 (by omega))]
      rw [zs_X4_scanHead hh'] at hst
      simp only [Option.bind_some] at hst
      rw [if_neg (show ¬ (1 : Int32) = 0 by decide)] at hst
      have K2 := zKC_p K1 2
      have K3 : zKC (zv_w (zv_w (zv_w g2 1 11 (nI 1)) 1 11 (nI 2)) 1 2 (nI n)) tx L ((n, 0, 2, 0), fun _ => 0, fun _ => 0, zk_s0 tx) := by
        obtain ⟨b1, b2, b3, b4, b5, b6, b7, b8, b9⟩ := K2
        refine ⟨(zw_other _ _ _ (by decide)).trans b1, fun k hk => (congrFun (zw_cell _ _ _ (by decide)) k).trans (b2 k hk), zw_same _ _ _ _, (zw_other _ _ _ (by decide)).trans b4, (zw_other _ _ _ (by decide)).trans b5, (zw_other _ _ _ (by decide)).trans b6, fun k hk => (congrFun (zw_cell _ _ _ (by decide)) k).trans (b7 k hk), fun k hk => (congrFun (zw_cell _ _ _ (by decide)) k).trans (b8 k hk), fun e he => ?_⟩
        rw [zw_cell _ _ _ (by decide), zw_cell _ _ _ (by decide), zw_cell _ _ _ (by decide), zw_cell _ _ _ (by decide)]
        exact b9 e he
      have F3 : zFs g (zv_w (zv_w (zv_w g2 1 11 (nI 1)) 1 11 (nI 2)) 1 2 (nI n)) := zFs_trans F1 (zFs_trans (zFs_1 _ _ (by decide)) (zFs_1 _ _ (by decide)))
      have key : ∀ (f i : Nat) (S : zK) (s : Nat → Nat → Int32), L ≤ S.1.2.2.1 + f → i < S.1.2.2.1 → S.1.2.2.1 ≤ 200 → zK_ok S → zFs g s → zKC s tx L S → ∃ s', zFs g s' ∧ zKC s' tx L (zk_lp tx L f S).2 ∧ zv_m zt_X4_scan (zv_ev (dp + 6)) false 50 [some (.ref 1), some (.int (nI i))] [] zS0 (s, h) = zv_ri (if (zk_lp tx L f S).1 = true then -1 else nI (zk_lp tx L f S).2.1.2.2.1) zS0 (s', h) := by
        intro f
        induction f with
        | zero =>
          intro i S s hf hi h200 ok Fs Ks
          refine ⟨s, Fs, Ks, ?_⟩
          rw [zd_X4_scan_50, Ks.1, Ks.2.2.2.2.1, if_pos (nI_le (a := L) (b := S.1.2.2.1) (by omega) (by omega)), ite_self]
          rfl
        | succ f ih =>
          intro i S s hf hi h200 ok Fs Ks
          have e2 := zd_X4_scan_50 (zv_ev (dp + 6)) s h (nI i)
          rw [Ks.1, Ks.2.2.2.2.1] at e2
          unfold zk_lp
          by_cases hl : L ≤ S.1.2.2.1
          · rw [if_pos (nI_le (a := L) (b := S.1.2.2.1) hl (by omega)), ite_self] at e2
            rw [if_pos hl]
            exact ⟨s, Fs, Ks, e2⟩
          · rw [if_neg (fun z => hl ((nI_leI (by omega) (by omega)).mp z)), if_neg (zi_ge 90 90 rfl (by omega) (by decide))] at e2
            rw [if_neg hl]
            obtain ⟨s1, F4, K4, r4⟩ := ev_scanPart (dp := dp) (h := h) Ks ok hL hb (by omega)
            obtain ⟨p1, p2, p3⟩ := zk_pt_ok (tx := tx) (L := L) ok hb
            rw [r4] at e2
            simp only [Option.bind_some] at e2
            by_cases hok : (zk_pt tx L S).1 = true
            · rw [if_pos hok, if_neg (show ¬ (1 : Int32) = 0 by decide), K4.2.2.2.2.2.1, nI_1, nI_1] at e2
              rw [if_pos hok]
              have p2' := p2 hok
              obtain ⟨s2, F5, K5, r5⟩ := ih (i + 1) (zk_q1 (zk_pt tx L S).2) _ (by show L ≤ (zk_pt tx L S).2.1.2.2.1 + f; omega) (by show i + 1 < (zk_pt tx L S).2.1.2.2.1; omega) (by show (zk_pt tx L S).2.1.2.2.1 ≤ 200; omega) p1 (zFs_trans Fs (zFs_trans F4 (zFs_1 _ _ (by decide)))) (zKC_q K4)
              exact ⟨s2, F5, K5, e2.trans r5⟩
            · rw [if_neg hok, if_pos rfl, K4.2.2.2.2.1] at e2
              rw [if_neg hok]
              exact ⟨s1, zFs_trans Fs F4, K4, e2⟩
      obtain ⟨s', F6, K6, r6⟩ := key L 0 ((n, 0, 2, 0), fun _ => 0, fun _ => 0, zk_s0 tx) _ (by dsimp only; omega) (by show 0 < 2; decide) (by show 2 ≤ 200; decide) (zK_ok0 hS ln.1 ln.2.1) F3 K3
      exact ⟨s', F6, K6, zs_X4_scan (hst.trans r6)⟩
