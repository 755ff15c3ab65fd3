theorem ev_linkCount {dp : Nat} {Dm : zv_D} {w : Nat → Nat} (hw : ∀ k, k < 25 → Dm.1 18 k = nI (w k)) (h9 : ∀ k, w k ≤ 9) : zv_ev (dp + 1) 77 [.ref 17] zS0 Dm = zo_i (nI (zj_c w 25 / 2)) Dm := by
  obtain ⟨-, -, r1⟩ := zl_up (σ := Unit) (fun k _ => zv_m zt_X7_linkCount (zv_ev dp) false 4 [some (.ref 17), some (.int (nI (zj_c w k))), some (.int (nI k))] [] zS0 (Dm.1, Dm.2)) 25 (fun _ _ => True) (by
    intro k _ hk _
    refine ⟨(), trivial, ?_⟩
    have := h9 k
    rw [zd_X7_linkCount_17_4, if_neg (zi_ge 25 25 rfl hk (by decide)), zi_in hk (by decide), nI_clamp (by omega), hw k hk, cond_true, nI_1, nI_1, Int32.add_zero]
    show _ = zv_m zt_X7_linkCount (zv_ev dp) false 4 [some (.ref 17), some (.int (nI (zj_c w k + (if w k = 0 then 0 else 1)))), some (.int (nI (k + 1)))] [] zS0 (Dm.1, Dm.2)
    by_cases q : w k = 0
    · rw [if_pos ((zi_le0 (by omega)).mpr q), if_pos q]; rfl
    · rw [if_neg (fun z => q ((zi_le0 (by omega)).mp z)), if_neg q]) () trivial
  have := zj_c_le w 25
  refine zs_X7_linkCount_17 ((zd_X7_linkCount_17 _ Dm.1 Dm.2).trans (r1.trans ?_))
  rw [zd_X7_linkCount_17_4, if_pos (zi_le 25 25 rfl (by decide) (by decide)), show (2 : Int32) = nI 2 from rfl, pk_div (by omega) (by decide) (by decide)]
theorem ev_sessionCount {dp : Nat} {Dm : zv_D} {w : Nat → Nat} (hw : ∀ k, k < 25 → Dm.1 10 k = nI (w k)) (h9 : ∀ k, w k ≤ 9) : zv_ev (dp + 1) 27 [.ref 9] zS0 Dm = zo_i (nI (zj_c w 25 / 2)) Dm := by
  obtain ⟨-, -, r1⟩ := zl_up (σ := Unit) (fun k _ => zv_m zt_X3_sessionCount (zv_ev dp) false 4 [some (.ref 9), some (.int (nI (zj_c w k))), some (.int (nI k))] [] zS0 (Dm.1, Dm.2)) 25 (fun _ _ => True) (by
    intro k _ hk _
    refine ⟨(), trivial, ?_⟩
    have := h9 k
    rw [zd_X3_sessionCount_4, if_neg (zi_ge 25 25 rfl hk (by decide)), zi_in hk (by decide), nI_clamp (by omega), hw k hk, cond_true, nI_1, nI_1, Int32.add_zero]
    show _ = zv_m zt_X3_sessionCount (zv_ev dp) false 4 [some (.ref 9), some (.int (nI (zj_c w k + (if w k = 0 then 0 else 1)))), some (.int (nI (k + 1)))] [] zS0 (Dm.1, Dm.2)
    by_cases q : w k = 0
    · rw [if_pos ((zi_0 (by omega)).mpr q), if_pos q]; rfl
    · rw [if_neg (fun z => q ((zi_0 (by omega)).mp z)), if_neg q]) () trivial
  have := zj_c_le w 25
  refine zs_X3_sessionCount ((zd_X3_sessionCount _ Dm.1 Dm.2).trans (r1.trans ?_))
  rw [zd_X3_sessionCount_4, if_pos (zi_le 25 25 rfl (by decide) (by decide)), show (2 : Int32) = nI 2 from rfl, pk_div (by omega) (by decide) (by decide)]
theorem ev_joined {dp : Nat} {Dm : zv_D} {w : Nat → Nat} {n fr : Nat} (c0 : Dm.1 119 0 = nI n) (hn : n ≤ 5) (hf : fr ≤ 30) (hw : ∀ k, k < 25 → Dm.1 119 (fr + k) = nI (w k)) (h9 : ∀ k, w k ≤ 9) : zv_ev (dp + 2) 214 [.ref 116, .int (nI fr)] zS0 Dm = zo_i (nI (zj_j w n)) Dm := by
  obtain ⟨u, -, r1⟩ := zl_up (σ := Option Value) (fun i u => zv_m zt_X9_joined (zv_ev (dp + 1)) false 4 [some (.ref 116), some (.int (nI fr)), some (.int (nI (zj_j w i))), some (.int (nI i)), u] [] zS0 (Dm.1, Dm.2)) n (fun _ _ => True) (by
    intro i u hi _
    have e1 := zd_X9_joined_4 (zv_ev (dp + 1)) Dm.1 Dm.2 (nI fr) (nI (zj_j w i)) (nI i) u
    rw [c0, if_neg (nI_ge hi (by omega))] at e1
    obtain ⟨-, -, r2⟩ := zl_up (σ := Unit) (fun j _ => zv_m zt_X9_joined (zv_ev (dp + 1)) false 17 [some (.ref 116), some (.int (nI fr)), some (.int (nI (zj_j w i + zj_r w i j))), some (.int (nI i)), some (.int (nI j))] [] zS0 (Dm.1, Dm.2)) i (fun _ _ => True) (by
      intro j _ hj _
      refine ⟨(), trivial, ?_⟩
      have := h9 (5 * i + j)
      have e2 := zd_X9_joined_17 (zv_ev (dp + 1)) Dm.1 Dm.2 (nI fr) (nI (zj_j w i + zj_r w i j)) (nI i) (nI j)
      rw [if_neg (nI_ge hj (by omega)), ev_pair (dp := dp) (Dm.1, Dm.2), show (nI fr + ((5 : Int32) * nI i)) + nI j = nI (fr + (5 * i + j)) by rw [show (5 : Int32) = nI 5 from rfl, pk_mul, nI_add, nI_add, Nat.add_assoc]] at e2
      simp only [Option.bind_some] at e2
      rw [zi_in (n := 101) (by omega) (by decide), nI_clamp (by omega), hw _ (by omega), cond_true, nI_1, nI_1, Int32.add_zero] at e2
      show _ = zv_m zt_X9_joined (zv_ev (dp + 1)) false 17 [some (.ref 116), some (.int (nI fr)), some (.int (nI (zj_j w i + (zj_r w i j + (if w (5 * i + j) = 0 then 0 else 1))))), some (.int (nI i)), some (.int (nI (j + 1)))] [] zS0 (Dm.1, Dm.2)
      by_cases q : w (5 * i + j) = 0
      · rw [if_pos ((zi_le0 (by omega)).mpr q)] at e2
        rw [if_pos q]; exact e2
      · rw [if_neg (fun z => q ((zi_le0 (by omega)).mp z))] at e2
        rw [if_neg q, ← Nat.add_assoc]; exact e2) () trivial
    have e3 := zd_X9_joined_17 (zv_ev (dp + 1)) Dm.1 Dm.2 (nI fr) (nI (zj_j w i + zj_r w i i)) (nI i) (nI i)
    rw [if_pos (nI_le (Nat.le_refl _) (by omega)), nI_1] at e3
    exact ⟨_, trivial, e1.trans (r2.trans e3)⟩) none trivial
  refine zs_X9_joined ((zd_X9_joined _ Dm.1 Dm.2 _).trans (r1.trans ?_))
  rw [zd_X9_joined_4, c0, if_pos (nI_le (Nat.le_refl _) (by omega))]
/-- the routers that have a first route -/
def za_cf (A : zA) : Nat → Nat
  | 0 => 0
  | k + 1 => za_cf A k ||| (if A k 0 = 0 then 0 else 2 ^ k)
theorem za_cf_lt (A : zA) : ∀ k, k ≤ 5 → za_cf A k < 32 := by
  intro k
  induction k with
  | zero => intro _; exact (by decide : (0 : Nat) < 32)
  | succ k ih =>
    intro hk
    refine Nat.or_lt_two_pow (n := 5) (ih (by omega)) ?_
    split
    · decide
    · exact zp_lt (by omega)
theorem za_cf_n {T : zT} {A : zA} (hW : za_W T A) : ∀ k, zT_n T ≤ k → za_cf A k = za_cf A (zT_n T) := by
  intro k hk
  induction k with
  | zero => rw [show zT_n T = 0 by omega]
  | succ k ih =>
    by_cases h : zT_n T = k + 1
    · rw [h]
    · show za_cf A k ||| (if A k 0 = 0 then 0 else _) = _
      rw [if_pos (hW.2.2 k 0 (Or.inl (by omega))), Nat.or_zero]
      exact ih (by omega)
theorem ev_chosenSet {dp : Nat} {Dm : zv_D} {T : zT} {X : zX} {A : zA} (hC : zC 16 Dm.1 T X A) : zv_ev (dp + 1) 78 [.ref 17] zS0 Dm = zo_i (nI (za_cf A 5)) Dm := by
  obtain ⟨-, -, r1⟩ := zl_up (σ := Unit) (fun k _ => zv_m zt_X7_chosenSet (zv_ev dp) false 4 [some (.ref 17), some (.int (nI (za_cf A k))), some (.int (nI k))] [] zS0 (Dm.1, Dm.2)) 5 (fun _ _ => True) (by
    intro k _ hk _
    refine ⟨(), trivial, ?_⟩
    have a0 := za_R_lt (hC.2.2.1.1 k 0)
    have a1 := za_R_lt (hC.2.2.1.1 k 1)
    have ha := hC.2.2.1.2.1 k
    have cl := za_cf_lt A k (by omega)
    rw [zd_X7_chosenSet_17_4, if_neg (zi_ge 5 5 rfl hk (by decide)), zi_in hk (by decide), nI_clamp (by omega), show Dm.1 20 k = nI (A k 0 + 2048 * A k 1) from hC.2.2.2.2.1.2.2.1 k hk, cond_true, nI_1]
    show _ = zv_m zt_X7_chosenSet (zv_ev dp) false 4 [some (.ref 17), some (.int (nI (za_cf A k ||| (if A k 0 = 0 then 0 else 2 ^ k)))), some (.int (nI (k + 1)))] [] zS0 (Dm.1, Dm.2)
    by_cases q : A k 0 = 0
    · rw [if_pos ((zi_0 (by omega)).mpr (by rw [q, ha q])), if_pos q, show (0 : Int32) = nI 0 from rfl, zi_or (by omega) (by decide)]
    · rw [if_neg (fun z => q (by have := (zi_0 (by omega)).mp z; omega)), if_neg q, zi_sh hk, zi_or (by omega) (by have := zp_lt hk; omega)]) () trivial
  refine zs_X7_chosenSet_17 ((zd_X7_chosenSet_17 _ Dm.1 Dm.2).trans (r1.trans ?_))
  rw [zd_X7_chosenSet_17_4, if_pos (zi_le 5 5 rfl (by decide) (by decide))]
theorem ev_withFirst {dp : Nat} {Dm : zv_D} {T : zT} {X : zX} {A : zA} (hT : zT_ok T) (hR : zM_R (Dm.1 119) T X A) : zv_ev (dp + 2) 215 [.ref 116] zS0 Dm = zo_i (nI (za_cf A (zT_n T))) Dm := by
  have h5 := hT.2.1
  obtain ⟨-, -, r1⟩ := zl_up (σ := Unit) (fun k _ => zv_m zt_X9_withFirst (zv_ev (dp + 1)) false 4 [some (.ref 116), some (.int (nI (za_cf A k))), some (.int (nI k))] [] zS0 (Dm.1, Dm.2)) (zT_n T) (fun _ _ => True) (by
    intro k _ hk _
    refine ⟨(), trivial, ?_⟩
    have el := zc_e_lt (A k 0)
    have cl := za_cf_lt A k (by omega)
    have hst := zd_X9_withFirst_4 (zv_ev (dp + 1)) Dm.1 Dm.2 (nI (za_cf A k)) (nI k)
    have hch := (hR.2.2.2.2.2.2.2.2 k 0 (by omega) (by decide)).1
    rw [hR.1, if_neg (nI_ge hk (by omega)), show (Value.int 0) = Value.int (nI 0) from rfl, ev_at (dp := dp) (Dm.1, Dm.2), zx_at, nI_1] at hst
    simp only [Option.bind_some] at hst
    rw [zi_in (n := 101) (by omega) (by decide), nI_clamp (by omega), hch, cond_true] at hst
    show _ = zv_m zt_X9_withFirst (zv_ev (dp + 1)) false 4 [some (.ref 116), some (.int (nI (za_cf A k ||| (if A k 0 = 0 then 0 else 2 ^ k)))), some (.int (nI (k + 1)))] [] zS0 (Dm.1, Dm.2)
    by_cases q : A k 0 = 0
    · rw [zm_v0 q, if_pos rfl, show (0 : Int32) = nI 0 from rfl, zi_or (by omega) (by decide)] at hst
      rw [if_pos q]; exact hst
    · rw [zm_v1 q, if_neg (zi_ne9 (by omega)), zi_sh (by omega), zi_or (by omega) (by have := zp_lt (show k < 5 by omega); omega)] at hst
      rw [if_neg q]; exact hst) () trivial
  refine zs_X9_withFirst ((zd_X9_withFirst _ Dm.1 Dm.2).trans (r1.trans ?_))
  rw [zd_X9_withFirst_4, hR.1, if_pos (nI_le (Nat.le_refl _) (by omega))]
/-- the eleven figures -/
def zk_v (Z : zZ) (k : Nat) : Int32 := if k = 0 then nI Z.2.1.2 else if k = 1 then nI (zT_n Z.1.1) else if k = 2 then nI (zj_j (zX_co Z.1.2.1) (zT_n Z.1.1)) else if k = 3 then nI (zj_j (zT_se Z.1.1) (zT_n Z.1.1)) else if k = 4 then nI (zT_m Z.1.1) else if k = 5 then nI (zX_up Z.1.2.1) else if k = 6 then nI (zX_ex Z.1.2.1) else if k = 7 then nI (zX_mo Z.1.2.1) else if k = 8 then nI (za_cf Z.1.2.2 (zT_n Z.1.1)) else if k = 9 then nI Z.2.2.1.2 else nI Z.2.2.2.2.1.2.2.2
theorem go_count (a : Int32) : zGo 114 216 [.int a] := by
  intro Z ok
  have h5 := ok.1.1.2.1
  have hco : zj_c (zX_co Z.1.2.1) 25 / 2 = zj_j (zX_co Z.1.2.1) (zT_n Z.1.1) := zj_same h5 ok.1.2.1.2.1 (fun i j hi hj => by rw [ok.1.2.1.2.2.1 i j hi hj])
  have hse : zj_c (zT_se Z.1.1) 25 / 2 = zj_j (zT_se Z.1.1) (zT_n Z.1.1) := zj_same h5 ok.1.1.2.2.2.2.1 (fun i j hi hj => ⟨fun q => Classical.byContradiction fun r => ok.1.1.2.2.2.2.2.1 j i hj hi r q, fun q => Classical.byContradiction fun r => ok.1.1.2.2.2.2.2.1 i j hi hj r q⟩)
  have cl : ∀ g h, zBC g h Z → zv_m zt_X8_count (zv_ev 10) false 0 [some (.ref 0), some (.int a)] [] zS0 (g, h) = (if a = 0 then zv_ri (zk_v Z 0) zS0 (g, h) else if a = 1 then zv_ri (zk_v Z 1) zS0 (g, h) else if a = 2 then zv_ri (zk_v Z 2) zS0 (g, h) else if a = 3 then zv_ri (zk_v Z 3) zS0 (g, h) else if a = 4 then zv_ri (zk_v Z 4) zS0 (g, h) else if a = 5 then zv_ri (zk_v Z 5) zS0 (g, h) else if a = 6 then zv_ri (zk_v Z 6) zS0 (g, h) else if a = 7 then zv_ri (zk_v Z 7) zS0 (g, h) else if a = 8 then zv_ri (zk_v Z 8) zS0 (g, h) else if a = 9 then zv_ri (zk_v Z 9) zS0 (g, h) else if a = 10 then zv_ri (zk_v Z 10) zS0 (g, h) else zv_ri (-2) zS0 (g, h)) := by
    intro g h hB
    have hst := zd_X8_count (zv_ev 10) g h a
    obtain ⟨nx, -, p1, -, -⟩ := hB.2.2.1
    rw [hB.2.1.1, zB_n hB, zB_m hB, ev_linkCount (dp := 9) (Dm := (g, h)) (w := zX_co Z.1.2.1) (fun k hk => hB.1.2.2.2.2.1.1 k hk) ok.1.2.1.1, ev_sessionCount (dp := 9) (Dm := (g, h)) (w := zT_se Z.1.1) (fun k hk => hB.1.2.2.2.1.2.2.1 k hk) (fun k => Nat.le_trans (ok.1.1.2.2.2.1 k) (by decide)), hco, hse, ev_chosenSet (dp := 9) (Dm := (g, h)) hB.1, za_cf_n ok.1.2.2 5 h5, show g 17 3 = nI (zX_up Z.1.2.1) from hB.1.2.2.2.2.1.2.2.2.1, show g 17 4 = nI (zX_ex Z.1.2.1) from hB.1.2.2.2.2.1.2.2.2.2.1, show g 17 5 = nI (zX_mo Z.1.2.1) from hB.1.2.2.2.2.1.2.2.2.2.2, p1, hB.2.2.2.2.1.1] at hst
    exact hst
  have md : ∀ g h, zBM g h Z → zv_m zt_X9_count (zv_ev 10) false 0 [some (.ref 116), some (.int a)] [] zS0 (g, h) = (if a = 0 then zv_ri (zk_v Z 0) zS0 (zv_w g 116 0 0, h) else if a = 1 then zv_ri (zk_v Z 1) zS0 (zv_w g 116 0 0, h) else if a = 2 then zv_ri (zk_v Z 2) zS0 (zv_w g 116 0 0, h) else if a = 3 then zv_ri (zk_v Z 3) zS0 (zv_w g 116 0 0, h) else if a = 4 then zv_ri (zk_v Z 4) zS0 (zv_w g 116 0 0, h) else if a = 5 then zv_ri (zk_v Z 5) zS0 (zv_w g 116 0 0, h) else if a = 6 then zv_ri (zk_v Z 6) zS0 (zv_w g 116 0 0, h) else if a = 7 then zv_ri (zk_v Z 7) zS0 (zv_w g 116 0 0, h) else if a = 8 then zv_ri (zk_v Z 8) zS0 (zv_w g 116 0 0, h) else if a = 9 then zv_ri (zk_v Z 9) zS0 (zv_w g 116 0 0, h) else if a = 10 then zv_ri (zk_v Z 10) zS0 (zv_w g 116 0 0, h) else zv_ri (-2) zS0 (zv_w g 116 0 0, h)) := by
    intro g h hB
    have B0 := zBM_0 hB
    have hst := zd_X9_count (zv_ev 10) g h a
    have j5 := ev_joined (dp := 8) (Dm := (zv_w g 116 0 0, h)) (w := zX_co Z.1.2.1) (n := zT_n Z.1.1) (fr := 5) B0.1.1 h5 (by decide) (fun k hk => B0.1.2.2.2.2.2.1 k hk) ok.1.2.1.1
    have j30 := ev_joined (dp := 8) (Dm := (zv_w g 116 0 0, h)) (w := zT_se Z.1.1) (n := zT_n Z.1.1) (fr := 30) B0.1.1 h5 (by decide) (fun k hk => B0.1.2.2.2.2.2.2.1 k hk) (fun k => Nat.le_trans (ok.1.1.2.2.2.1 k) (by decide))
    have j5' : zv_ev 10 214 [.ref 116, .int 5] zS0 (zv_w g 116 0 0, h) = _ := j5
    have j30' : zv_ev 10 214 [.ref 116, .int 30] zS0 (zv_w g 116 0 0, h) = _ := j30
    rw [j5', j30', ev_withFirst (dp := 8) (Dm := (zv_w g 116 0 0, h)) ok.1.1 B0.1, B0.2.1.1, B0.1.1, B0.1.2.1, B0.1.2.2.1, B0.1.2.2.2.1, B0.1.2.2.2.2.1, B0.2.2.1.1, B0.2.2.2.2.1.1] at hst
    exact hst
  rcases zi_rng (a := a) (n := 10) (by decide) 10 rfl with ⟨hb, -⟩ | ⟨k, hk, rfl, -, -, -, -⟩
  · have ne : ∀ k, k < 11 → ¬ a = nI k := fun k hk => zi_nin (by decide) hb hk
    have n0 : ¬ a = 0 := ne 0 (by decide)
    have n1 : ¬ a = 1 := ne 1 (by decide)
    have n2 : ¬ a = 2 := ne 2 (by decide)
    have n3 : ¬ a = 3 := ne 3 (by decide)
    have n4 : ¬ a = 4 := ne 4 (by decide)
    have n5 : ¬ a = 5 := ne 5 (by decide)
    have n6 : ¬ a = 6 := ne 6 (by decide)
    have n7 : ¬ a = 7 := ne 7 (by decide)
    have n8 : ¬ a = 8 := ne 8 (by decide)
    have n9 : ¬ a = 9 := ne 9 (by decide)
    have n10 : ¬ a = 10 := ne 10 (by decide)
    refine ⟨(-2, 0, 0), Z, ok, zCl_q fun g h hB => ⟨g, hB.1, fun _ _ => rfl, zs_X8_count ((cl g h hB).trans ?_)⟩, zMd_q fun g h hB => ⟨_, zN_0 g, zs_X9_count ((md g h hB).trans ?_)⟩⟩
    · rw [if_neg n0, if_neg n1, if_neg n2, if_neg n3, if_neg n4, if_neg n5, if_neg n6, if_neg n7, if_neg n8, if_neg n9, if_neg n10]
    · rw [if_neg n0, if_neg n1, if_neg n2, if_neg n3, if_neg n4, if_neg n5, if_neg n6, if_neg n7, if_neg n8, if_neg n9, if_neg n10]
  · refine ⟨(zk_v Z k, 0, 0), Z, ok, zCl_q fun g h hB => ⟨g, hB.1, fun _ _ => rfl, zs_X8_count ((cl g h hB).trans ?_)⟩, zMd_q fun g h hB => ⟨_, zN_0 g, zs_X9_count ((md g h hB).trans ?_)⟩⟩
    all_goals
      have : k = 0 ∨ k = 1 ∨ k = 2 ∨ k = 3 ∨ k = 4 ∨ k = 5 ∨ k = 6 ∨ k = 7 ∨ k = 8 ∨ k = 9 ∨ k = 10 := by omega
      rcases this with rfl | rfl | rfl | rfl | rfl | rfl | rfl | rfl | rfl | rfl | rfl <;> rfl
