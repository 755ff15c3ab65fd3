/-! ===== at the start ===== -/
theorem zBC_f {g g' : Nat → Nat → Int32} {h h' : Nat → Nat → Int64} {Z : zZ} (hB : zBC g h Z) (hf : ∀ x, x < 116 → g' x = g x ∧ h' x = h x) : zBC g' h' Z := by
  have hC : zC 16 g' Z.1.1 Z.1.2.1 Z.1.2.2 := by
    obtain ⟨a, b, c, d, e, f⟩ := hB.1
    refine ⟨a, b, c, ?_, zC_X_of e (fun x _ _ => (hf x (by omega)).1), ?_⟩
    · unfold zC_T
      rw [(hf 9 (by decide)).1, (hf 10 (by decide)).1, (hf 11 (by decide)).1, (hf 12 (by decide)).1, (hf 13 (by decide)).1, (hf 14 (by decide)).1, (hf 15 (by decide)).1]
      exact d
    · unfold zC_Q
      rw [(hf (16 + 5) (by decide)).1, (hf (16 + 6) (by decide)).1, (hf (16 + 7) (by decide)).1]
      exact f
  exact ⟨hC, zb2_of hB.2.1 (congrFun (hf 1 (by decide)).1 1) (hf 2 (by decide)).1 (fun x h1 h2 => (hf x (by omega)).1), zb3_of hB.2.2.1 (fun x h1 h2 => (hf x (by omega)).1), zb4_of hB.2.2.2.1 (fun x h1 h2 => (hf x (by omega)).1), zb5_of hB.2.2.2.2.1 (fun x h1 h2 => (hf x (by omega)).1), by rw [(hf 0 (by decide)).2]; exact hB.2.2.2.2.2⟩
theorem zBM_f {g g' : Nat → Nat → Int32} {h h' : Nat → Nat → Int64} {Z : zZ} (hB : zBM g h Z) (hf : ∀ x, 116 ≤ x → g' x = g x ∧ h' x = h x) : zBM g' h' Z :=
  ⟨by rw [(hf 119 (by decide)).1]; exact hB.1, zm2_of hB.2.1 (congrFun (hf 116 (by decide)).1 2) (hf 117 (by decide)).1, zm3_of hB.2.2.1 (congrFun (hf 116 (by decide)).1 10) (hf 122 (by decide)).1, zm4_of hB.2.2.2.1 (hf 123 (by decide)).1 (hf 124 (by decide)).1, zm5_of hB.2.2.2.2.1 (congrFun (hf 116 (by decide)).1 13) (fun x h1 h2 => (hf x (by omega)).1), by rw [(hf 116 (by decide)).2]; exact hB.2.2.2.2.2⟩
def zZ_0 : zZ := ((zT_0, zX_0, zA_0), ((fun _ => 0), 0), ((fun _ => (zX_0, zA_0)), 0), ((fun _ => (zX_0, zA_0)), fun _ => false), ((fun _ => 0), (fun _ => 0), (fun _ => 0), 0), 0)
theorem zZ_0_ok : zOK zZ_0 := ⟨⟨zT_0_ok, zX_0_ok, zA_0_W _⟩, ⟨Nat.zero_le _, fun k h => absurd h (Nat.not_lt_zero k), fun _ _ => ⟨Nat.succ_pos 4, Nat.zero_le _, Nat.zero_le _, Nat.zero_le _⟩⟩, ⟨Nat.zero_le _, fun k h => absurd h (Nat.not_lt_zero k)⟩, fun _ _ h => Bool.noConfusion h, ⟨Nat.zero_le _, fun k h => absurd h (Nat.not_lt_zero k)⟩⟩
theorem zT_0_ho (k : Nat) : za_ho zT_0 k = 0 := by
  have ha : za_at zT_0 k = fun _ => false := funext fun e => by
    show (decide (e < 0) && _) = false
    rw [decide_eq_false (Nat.not_lt_zero e), Bool.false_and]
  unfold za_ho
  rw [ha]
  rfl
theorem zZ_0_C {g : Nat → Nat → Int32} {h : Nat → Nat → Int64} (hz : ∀ x, x < 116 → x ≠ 9 → x ≠ 21 → x ≠ 22 → x ≠ 23 → x ≠ 32 → x ≠ 33 → x ≠ 34 → g x = fun _ => 0) (h9 : ∀ k, g 9 k = if k = 0 then 1 else 0) (hd : ∀ i j, i < 5 → j < 5 → g 22 (5 * i + j) = nI (za_di (zX_co zX_0) i j)) (hn : ∀ i, i < 5 → g 21 i = nI (zf_set (za_nr zT_0 zX_0 i))) (hp : ∀ k, k < 80 → g 23 k = -2) (hh : h 0 10 = 0) : zBC g h zZ_0 := by
  have z : ∀ x, x < 116 → x ≠ 9 → x ≠ 21 → x ≠ 22 → x ≠ 23 → x ≠ 32 → x ≠ 33 → x ≠ 34 → ∀ k, g x k = 0 := fun x a b c d e f i j k => by rw [hz x a b c d e f i j]
  have zs : ∀ x k, x < 116 → x ≠ 9 → x < 21 ∨ 35 ≤ x → g x k = 0 := fun x k a b c => z x a b (by omega) (by omega) (by omega) (by omega) (by omega) (by omega) k
  have hT : zC_T g zT_0 := ⟨h9 0, h9 1, fun k _ => zs 10 k (by decide) (by decide) (by decide), fun k _ => zs 12 k (by decide) (by decide) (by decide), fun k _ => zs 13 k (by decide) (by decide) (by decide), fun k _ => zs 14 k (by decide) (by decide) (by decide), fun k _ => by rw [zs 15 k (by decide) (by decide) (by decide), zT_0_ho k]; rfl, fun j i _ _ => ⟨0, by decide, zs 11 _ (by decide) (by decide) (by decide), fun f _ => Nat.zero_testBit f⟩⟩
  have hX : zC_X 17 g zX_0 zA_0 := ⟨fun k _ => zs 18 k (by decide) (by decide) (by decide), fun k _ => zs 19 k (by decide) (by decide) (by decide), fun k _ => zs 20 k (by decide) (by decide) (by decide), zs 17 3 (by decide) (by decide) (by decide), zs 17 4 (by decide) (by decide) (by decide), zs 17 5 (by decide) (by decide) (by decide)⟩
  have hQ : zC_Q 16 g zT_0 zX_0 := ⟨hd, hn, fun i s hi hs _ => Or.inl (hp _ (by omega))⟩
  exact ⟨⟨zT_0_ok, zX_0_ok, zA_0_W _, hT, hX, hQ⟩, ⟨zs 1 1 (by decide) (by decide) (by decide), fun k hk => absurd hk (Nat.not_lt_zero k), fun e _ => ⟨zs 5 e (by decide) (by decide) (by decide), zs 6 e (by decide) (by decide) (by decide), zs 7 e (by decide) (by decide) (by decide), zs 8 e (by decide) (by decide) (by decide)⟩⟩, ⟨0, by decide, zs 44 0 (by decide) (by decide) (by decide), zs 44 1 (by decide) (by decide) (by decide), fun k hk => absurd hk (Nat.not_lt_zero k)⟩, fun s _ => ⟨zs 111 s (by decide) (by decide) (by decide), fun q => Bool.noConfusion q⟩, ⟨zs 112 0 (by decide) (by decide) (by decide), fun k hk => absurd hk (Nat.not_lt_zero k)⟩, hh⟩
theorem zZ_0_M {g : Nat → Nat → Int32} {h : Nat → Nat → Int64} (hz : ∀ x, 116 ≤ x → x ≠ 119 → g x = fun _ => 0) (h1 : ∀ k, k < 71 → g 119 k = if k = 0 then 1 else 0) (h2 : ∀ k, 71 ≤ k → k < 101 → g 119 k = -9) (hh : h 116 17 = 0) : zBM g h zZ_0 := by
  have zs : ∀ x k, 116 ≤ x → x ≠ 119 → g x k = 0 := fun x k a b => by rw [hz x a b]
  have hR : zM_R (g 119) zT_0 zX_0 zA_0 := ⟨h1 0 (by decide), h1 1 (by decide), h1 2 (by decide), h1 3 (by decide), h1 4 (by decide), fun k hk => by rw [h1 _ (by omega), if_neg (by omega)]; rfl, fun k hk => by rw [h1 _ (by omega), if_neg (by omega)]; rfl, fun e he => absurd he (Nat.not_lt_zero e), fun j k hj hk => ⟨h2 _ (by omega) (by omega), h2 _ (by omega) (by omega), h2 _ (by omega) (by omega)⟩⟩
  exact ⟨hR, ⟨zs 116 2 (by decide) (by decide), fun k hk => absurd hk (Nat.not_lt_zero k)⟩, ⟨zs 116 10 (by decide) (by decide), fun k hk => absurd hk (Nat.not_lt_zero k)⟩, fun s _ => ⟨zs 124 s (by decide) (by decide), fun q => Bool.noConfusion q⟩, ⟨zs 116 13 (by decide) (by decide), fun k hk => absurd hk (Nat.not_lt_zero k)⟩, hh⟩
set_option maxRecDepth 20000 in
theorem zlw_a (ca : zv_Ca) (ci : zv_Ci) (xs : Nat × (Nat → Int32)) (Dm : zv_D) : zv_z true zt_L_law ca ci xs true 0 [some (.ref 1000000), none, none, none] [] zS_in Dm = ((ci 80 [.ref 0] zq_1 (zv_zer zq_0 Dm)).bind fun p => zv_z true zt_L_law ca ci xs true 7 [some (.ref 1000000), none, none, none] [.ref 0] p.2.1 p.2.2) := (zv_zn _ _ _ _ _ _ [7] 5 _ _ _ _ _).trans rfl
set_option maxRecDepth 20000 in
theorem zlw_b (ca : zv_Ca) (ci : zv_Ci) (xs : Nat × (Nat → Int32)) (Dm : zv_D) : zv_z true zt_L_law ca ci xs true 7 [some (.ref 1000000), none, none, none] [.ref 0] zq_233 Dm = ((ci 128 [.ref 116] zq_234 (zv_zer zq_233 Dm)).bind fun p => zv_z true zt_L_law ca ci xs true 15 [some (.ref 1000000), some (.ref 0), none, none] [.ref 116] p.2.1 p.2.2) := (zv_zn _ _ _ _ _ _ [15] 6 _ _ _ _ _).trans rfl
theorem zlw_c (ca : zv_Ca) (ci : zv_Ci) (xs : Nat × (Nat → Int32)) (Dm : zv_D) : zv_z true zt_L_law ca ci xs true 15 [some (.ref 1000000), some (.ref 0), none, none] [.ref 116] zS0 Dm = zv_z true zt_L_law ca ci xs true 18 [some (.ref 1000000), some (.ref 0), some (.ref 116), some (.int 0)] [] zS0 Dm := (zv_zn _ _ _ _ _ _ [18] 5 _ _ _ _ _).trans rfl
theorem zlw_start (xs : Nat × (Nat → Int32)) : ∃ g h, zBC g h zZ_0 ∧ zBM g h zZ_0 ∧ zv_z true zt_L_law (zv_ev 11) (zv_ei xs 11) xs true 0 [some (.ref 1000000), none, none, none] [] zS_in zD_in = zv_z true zt_L_law (zv_ev 11) (zv_ei xs 11) xs true 18 [some (.ref 1000000), some (.ref 0), some (.ref 116), some (.int 0)] [] zS0 (g, h) := by
  obtain ⟨g3, f3, a3, d3, n3, p3, r3⟩ := zj_0 (xs := xs) (d := 6)
  have z3 : zD_z 117 (g3, zv_wl zD_in.2 0 10 0) := fun x hx => ⟨f3 x (by omega) (by omega) (by omega) (by omega) (by omega) (by omega) (by omega), (zwl_cell _ _ _ (by omega)).trans rfl⟩
  obtain ⟨g4, f4, a4, b4, r4⟩ := zj_27 (xs := xs) (d := 9) (Dm := (g3, zv_wl zD_in.2 0 10 0)) z3
  dsimp only at f4 r4
  refine ⟨g4, zv_wl zD_in.2 0 10 0, zZ_0_C (fun x h1 h2 h3 h4 h5 h6 h7 h8 => (f4 x (by omega)).trans (f3 x h2 h3 h4 h5 h6 h7 h8)) (fun k => by rw [f4 9 (by decide)]; exact a3 k) (fun i j hi hj => by rw [f4 22 (by decide)]; exact d3 i j hi hj) (fun i hi => by rw [f4 21 (by decide)]; exact n3 i hi) (fun k hk => by rw [f4 23 (by decide)]; exact p3 k hk) (zwl_same _ _ _ _), zZ_0_M (fun x h1 h2 => (f4 x h2).trans (f3 x (by omega) (by omega) (by omega) (by omega) (by omega) (by omega) (by omega))) a4 b4 (by rw [zwl_cell _ _ _ (by decide)]; rfl), ?_⟩
  rw [zlw_a, zer_id (S := zq_0) zD_in_z (Nat.zero_le _), r3, Option.bind_some]
  dsimp only
  rw [zlw_b, zer_id (S := zq_233) (zD_up (n := 116) (fun x hx => ⟨f3 x (by omega) (by omega) (by omega) (by omega) (by omega) (by omega) (by omega), (zwl_cell _ _ _ (by omega)).trans rfl⟩) (Nat.le_refl _)) (by decide +kernel), r4, Option.bind_some]
  dsimp only
  rw [zq_272_S, zlw_c]
