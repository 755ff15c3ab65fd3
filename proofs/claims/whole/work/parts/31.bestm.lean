/-! ===== the best of some: the other side ===== -/
def zf_ls (s : Nat) (ne we : Nat → Int32) (e f : Nat) : Bool := s.testBit e && (s.testBit f && (decide (ne e = ne f) && decide (we f < we e)))
def zf_nk (s : Nat) (ne we : Nat → Int32) : Nat → Nat
  | 0 => s
  | k + 1 => if zf_ls s ne we (k / 4) (k % 4) = true then za_rm (zf_nk s ne we k) (k / 4) else zf_nk s ne we k
theorem zf_nk_lt {s : Nat} (ne we : Nat → Int32) (hs : s < 16) : ∀ k, zf_nk s ne we k < 16 := by
  intro k
  induction k with
  | zero => exact hs
  | succ k ih =>
    show (if zf_ls s ne we (k / 4) (k % 4) = true then za_rm (zf_nk s ne we k) (k / 4) else zf_nk s ne we k) < 16
    split
    · exact za_rm_lt ih
    · exact ih
theorem zf_nk_tb {s : Nat} {ne we : Nat → Int32} (hs : s < 16) {e : Nat} (he : e < 4) : ∀ k, k ≤ 16 → ((zf_nk s ne we k).testBit e = true ↔ s.testBit e = true ∧ ∀ q, q < k → q / 4 = e → zf_ls s ne we e (q % 4) = false) := by
  intro k
  induction k with
  | zero => intro _; exact ⟨fun h => ⟨h, fun q hq => absurd hq (Nat.not_lt_zero q)⟩, fun h => h.1⟩
  | succ k ih =>
    intro hk
    have ih := ih (by omega)
    have hl := zf_nk_lt ne we hs k
    show (if zf_ls s ne we (k / 4) (k % 4) = true then za_rm (zf_nk s ne we k) (k / 4) else zf_nk s ne we k).testBit e = true ↔ _
    by_cases hls : zf_ls s ne we (k / 4) (k % 4) = true
    · rw [if_pos hls, za_rm_tb hl (by omega) he, Bool.and_eq_true, ih, decide_eq_true_eq]
      constructor
      · rintro ⟨⟨q1, q2⟩, q3⟩
        refine ⟨q1, fun q hq hqe => ?_⟩
        by_cases hqk : q = k
        · subst hqk; exact absurd hqe.symm q3
        · exact q2 q (by omega) hqe
      · rintro ⟨q1, q2⟩
        refine ⟨⟨q1, fun q hq => q2 q (by omega)⟩, fun q3 => ?_⟩
        have := q2 k (by omega) q3.symm
        rw [q3, hls] at this
        cases this
    · rw [if_neg hls, ih]
      constructor
      · rintro ⟨q1, q2⟩
        refine ⟨q1, fun q hq hqe => ?_⟩
        by_cases hqk : q = k
        · subst hqk; rw [← hqe]; simpa using hls
        · exact q2 q (by omega) hqe
      · rintro ⟨q1, q2⟩
        exact ⟨q1, fun q hq => q2 q (by omega)⟩
theorem zf_nk_16 {s : Nat} {ne we : Nat → Int32} (hs : s < 16) : zf_nk s ne we 16 = zf_nb s ne we := by
  refine zs_ext (zf_nk_lt ne we hs 16) (zf_nb_lt _ _ _) fun e he => ?_
  rw [Bool.eq_iff_iff, zf_nk_tb hs he 16 (Nat.le_refl _), zf_nb_tb he]
  constructor
  · rintro ⟨q1, q2⟩
    refine ⟨q1, fun f hf hsf hn hw => ?_⟩
    have := q2 (4 * e + f) (by omega) (by omega)
    rw [show (4 * e + f) % 4 = f by omega] at this
    unfold zf_ls at this
    rw [q1, hsf, decide_eq_true hn.symm, decide_eq_true hw] at this
    cases this
  · rintro ⟨q1, q2⟩
    refine ⟨q1, fun q hq hqe => ?_⟩
    cases hb : zf_ls s ne we e (q % 4) with
    | false => rfl
    | true =>
      unfold zf_ls at hb
      simp only [Bool.and_eq_true, decide_eq_true_eq] at hb
      exact absurd hb.2.2.2 (q2 (q % 4) (by omega) hb.2.1 hb.2.2.1.symm)
theorem zi_am {l : Nat} (h : l < 16) : nI l &&& (-1) = nI l := by
  have key : ∀ l, l < 16 → nI l &&& (-1) = nI l := by decide +kernel
  exact key l h
def zf_p9 (p : Nat) : Int32 := if p = 4 then -9 else nI p
def zf_hi (a : Nat) : Int32 := if a.testBit 3 = true then 3 else if a.testBit 2 = true then 2 else if a.testBit 1 = true then 1 else if a.testBit 0 = true then 0 else -9
theorem zf_hi_lo {t : Nat} (ht : t < 16) : zf_hi (zf_mn t fun e => nI e) = zf_p9 (zf_lo t) := by
  have key : ∀ t, t < 16 → zf_hi (zf_mn t fun e => nI e) = zf_p9 (zf_lo t) := by decide +kernel
  exact key t ht
theorem zf_mn_ow {t ho : Nat} (ht : t < 16) (hh : ho < 16) : (zf_mn t fun e => if ho.testBit e = true then 0 else 1) = zf_ow t ho := by
  have key : ∀ t, t < 16 → ∀ ho, ho < 16 → (zf_mn t fun e => if ho.testBit e = true then 0 else 1) = zf_ow t ho := by decide +kernel
  exact key t ht ho hh
theorem zf_mn_0 {t : Nat} (ht : t < 16) : (zf_mn t fun _ => 0) = t := by
  have key : ∀ t, t < 16 → (zf_mn t fun _ => 0) = t := by decide +kernel
  exact key t ht
theorem zx_5 {i j : Nat} : ((5 : Int32) * nI i) + nI j = nI (5 * i + j) := by
  rw [show (5 : Int32) = nI 5 from rfl, pk_mul, nI_add]
theorem ev_neighbours_119 {dp : Nat} {Dm : zv_D} {s : Nat} (hs : s < 16) : zv_ev (dp + 2) 162 [.ref 116, .ref 119, .int (nI s)] zS0 Dm = zo_i (nI (zf_nb s (fun e => Dm.1 119 (55 + 4 * e + 1)) (fun e => Dm.1 119 (55 + 4 * e + 3)))) Dm := by
  obtain ⟨u1, -, r1⟩ := zl_up (σ := Option Value × Option Value × Option Value) (fun k u => zv_m zt_X9_leaveByNeighbours (zv_ev (dp + 1)) false 5 [some (.ref 116), some (.ref 119), some (.int (nI s)), some (.int (nI (zf_nk s (fun e => Dm.1 119 (55 + 4 * e + 1)) (fun e => Dm.1 119 (55 + 4 * e + 3)) k))), some (.int (nI k)), u.1, u.2.1, u.2.2] [] zS0 (Dm.1, Dm.2)) 16 (fun _ _ => True) (by
    intro k u hk _
    have hl := zf_nk_lt (fun e => Dm.1 119 (55 + 4 * e + 1)) (fun e => Dm.1 119 (55 + 4 * e + 3)) hs k
    have hst := zd_X9_leaveByNeighbours_p119_5 (zv_ev (dp + 1)) Dm.1 Dm.2 (some (.ref 116)) (nI s) (nI (zf_nk s (fun e => Dm.1 119 (55 + 4 * e + 1)) (fun e => Dm.1 119 (55 + 4 * e + 3)) k)) (nI k) u.1 u.2.1 u.2.2
    have hd : nI k / 4 = nI (k / 4) := pk_div (d := 4) (by omega) (by decide) (by decide)
    have hr : nI k - nI (k / 4) * 4 = nI (k % 4) := by rw [← hd]; exact pk_rem (d := 4) (by omega) (by decide) (by decide)
    rw [if_neg (zi_ge 16 16 rfl hk (by decide)), hd, hr, zi_has (dp := dp) (Dm.1, Dm.2) (by omega) (by omega), nI_1, zi_am hl, zi_rm hl (by omega)] at hst
    simp only [Option.bind_some] at hst
    show ∃ u' : Option Value × Option Value × Option Value, True ∧ _ = zv_m zt_X9_leaveByNeighbours (zv_ev (dp + 1)) false 5 [some (.ref 116), some (.ref 119), some (.int (nI s)), some (.int (nI (if zf_ls s (fun e => Dm.1 119 (55 + 4 * e + 1)) (fun e => Dm.1 119 (55 + 4 * e + 3)) (k / 4) (k % 4) = true then za_rm (zf_nk s (fun e => Dm.1 119 (55 + 4 * e + 1)) (fun e => Dm.1 119 (55 + 4 * e + 3)) k) (k / 4) else zf_nk s (fun e => Dm.1 119 (55 + 4 * e + 1)) (fun e => Dm.1 119 (55 + 4 * e + 3)) k))), some (.int (nI (k + 1))), u'.1, u'.2.1, u'.2.2] [] zS0 (Dm.1, Dm.2)
    by_cases b1 : s.testBit (k / 4) = true
    · rw [if_pos b1, if_neg (by decide), zi_has (dp := dp) (Dm.1, Dm.2) (by omega) (by omega)] at hst
      simp only [Option.bind_some] at hst
      by_cases b2 : s.testBit (k % 4) = true
      · rw [if_pos b2, if_neg (by decide), show (1 : Int32) = nI 1 from rfl, ev_mexitOf_119 (dp := dp) (Dm.1, Dm.2) (by omega) (by decide), ] at hst
        simp only [Option.bind_some] at hst
        rw [ev_mexitOf_119 (dp := dp) (Dm.1, Dm.2) (by omega) (by decide)] at hst
        simp only [Option.bind_some] at hst
        by_cases b3 : Dm.1 119 (55 + 4 * (k / 4) + 1) = Dm.1 119 (55 + 4 * (k % 4) + 1)
        · rw [if_pos b3, show (3 : Int32) = nI 3 from rfl, ev_mexitOf_119 (dp := dp) (Dm.1, Dm.2) (by omega) (by decide)] at hst
          simp only [Option.bind_some] at hst
          rw [ev_mexitOf_119 (dp := dp) (Dm.1, Dm.2) (by omega) (by decide)] at hst
          simp only [Option.bind_some] at hst
          by_cases b4 : Dm.1 119 (55 + 4 * (k / 4) + 3) ≤ Dm.1 119 (55 + 4 * (k % 4) + 3)
          · rw [if_pos b4] at hst
            rw [if_neg (by unfold zf_ls; simp only [b1, b2, decide_eq_true b3, Bool.true_and, decide_eq_true_eq]; exact Int32.not_lt.mpr b4)]
            exact ⟨(_, _, _), trivial, hst⟩
          · rw [if_neg b4] at hst
            rw [if_pos (by unfold zf_ls; simp only [b1, b2, decide_eq_true b3, Bool.true_and, decide_eq_true_eq]; exact Int32.not_le.mp b4)]
            exact ⟨(_, _, _), trivial, hst⟩
        · rw [if_neg b3] at hst
          rw [if_neg (by unfold zf_ls; simp only [decide_eq_false b3, Bool.false_and, Bool.and_false]; decide)]
          exact ⟨(_, _, _), trivial, hst⟩
      · rw [if_neg b2, if_pos rfl] at hst
        rw [if_neg (by unfold zf_ls; simp [b2])]
        exact ⟨(_, _, _), trivial, hst⟩
    · rw [if_neg b1, if_pos rfl] at hst
      rw [if_neg (by unfold zf_ls; simp [b1])]
      exact ⟨(_, _, _), trivial, hst⟩) (none, none, none) trivial
  refine zs_X9_leaveByNeighbours_p119 ((zd_X9_leaveByNeighbours_p119 _ Dm.1 Dm.2 _).trans (r1.trans ?_))
  rw [zd_X9_leaveByNeighbours_p119_5, if_pos (zi_le 16 16 rfl (by decide) (by decide)), zf_nk_16 hs]
theorem ev_weigh1_119 {dp : Nat} (Dm : zv_D) (i : Int32) {e : Nat} (he : e < 4) : zv_ev (dp + 2) 160 [.ref 116, .ref 119, .int i, .int (nI e), .int 1] zS0 Dm = zo_i (Dm.1 119 (55 + 4 * e + 2)) Dm := by
  refine zs_X9_weighed_p119 ((zd_X9_weighed_p119 _ Dm.1 Dm.2 i (nI e) 1).trans ?_)
  rw [if_pos rfl, show (2 : Int32) = nI 2 from rfl, ev_mexitOf_119 (dp := dp) (Dm.1, Dm.2) he (by decide)]
  rfl
theorem ev_weigh2_119 {dp : Nat} (Dm : zv_D) (i : Int32) {e : Nat} (he : e < 4) : zv_ev (dp + 2) 160 [.ref 116, .ref 119, .int i, .int (nI e), .int 2] zS0 Dm = zo_i (if Dm.1 119 4 = 1 then Dm.1 119 (55 + 4 * e + 3) else 0) Dm := by
  refine zs_X9_weighed_p119 ((zd_X9_weighed_p119 _ Dm.1 Dm.2 i (nI e) 2).trans ?_)
  rw [if_neg (by decide), if_pos rfl, show (3 : Int32) = nI 3 from rfl, ev_mexitOf_119 (dp := dp) (Dm.1, Dm.2) he (by decide)]
  by_cases h : Dm.1 119 4 = 1
  · rw [if_pos h, if_pos h]; rfl
  · rw [if_neg h, if_neg h]
theorem ev_weigh3_119 {dp : Nat} (Dm : zv_D) (i : Int32) {e : Nat} (he : e < 4) : zv_ev (dp + 2) 160 [.ref 116, .ref 119, .int i, .int (nI e), .int 3] zS0 Dm = zo_i (if Dm.1 129 e = i then 0 else 1) Dm := by
  refine zs_X9_weighed_p119 ((zd_X9_weighed_p119 _ Dm.1 Dm.2 i (nI e) 3).trans ?_)
  rw [if_neg (by decide), if_neg (by decide), if_pos rfl, zi_in he (by decide), nI_clamp (by omega), cond_true]
  by_cases h : Dm.1 129 e = i
  · rw [if_pos h, if_pos h]
  · rw [if_neg h, if_neg h]
theorem ev_weigh4_119 {dp : Nat} (Dm : zv_D) {i e pl : Nat} (hi : i < 5) (he : e < 4) (hp : Dm.1 119 (55 + 4 * e + 0) = nI pl) (hpl : pl < 5) : zv_ev (dp + 2) 160 [.ref 116, .ref 119, .int (nI i), .int (nI e), .int 4] zS0 Dm = zo_i (Dm.1 128 (5 * i + pl)) Dm := by
  refine zs_X9_weighed_p119 ((zd_X9_weighed_p119 _ Dm.1 Dm.2 (nI i) (nI e) 4).trans ?_)
  rw [if_neg (by decide), if_neg (by decide), if_neg (by decide), if_pos rfl, show (0 : Int32) = nI 0 from rfl, ev_mexitOf_119 (dp := dp) (Dm.1, Dm.2) he (by decide)]
  simp only [Option.bind_some]
  rw [hp, zx_5, zi_in (n := 25) (by omega) (by decide), nI_clamp (by omega)]
  rfl
theorem ev_weigh5_119 {dp : Nat} (Dm : zv_D) (i : Int32) (e : Int32) : zv_ev (dp + 2) 160 [.ref 116, .ref 119, .int i, .int e, .int 5] zS0 Dm = zo_i e Dm := by
  refine zs_X9_weighed_p119 ((zd_X9_weighed_p119 _ Dm.1 Dm.2 i e 5).trans ?_)
  rw [if_neg (by decide), if_neg (by decide), if_neg (by decide), if_neg (by decide)]
theorem ev_best_119 {dp : Nat} {Dm : zv_D} {T : zT} {X : zX} {A : zA} {i s : Nat} (hT : zT_ok T) (hX : zX_ok T X) (hR : zM_R (Dm.1 119) T X A) (hK : zM_K Dm.1 T X) (hi : i < zT_n T) (hs : s < 16) (hsm : ∀ e, e < 4 → s.testBit e = true → e < zT_m T ∧ za_di (zX_co X) i (zT_pl T e) < 1000 ∧ (Dm.1 129 e = nI i ↔ zT_pl T e = i)) :
    zv_ev (dp + 4) 163 [.ref 116, .ref 119, .int (nI i), .int (nI s)] zS0 Dm = zo_i (zf_p9 (za_pk T X i s)) Dm := by
  have h5 := hT.2.1
  have hex : ∀ e, e < 4 → s.testBit e = true → Dm.1 119 (55 + 4 * e + 0) = nI (zT_pl T e) ∧ Dm.1 119 (55 + 4 * e + 1) = nI (zT_ne T e) ∧ Dm.1 119 (55 + 4 * e + 2) = nI (zT_pa T e) ∧ Dm.1 119 (55 + 4 * e + 3) = nI (zX_we X e) := fun e he hb => hR.2.2.2.2.2.2.2.1 e (hsm e he hb).1
  have hmo : Dm.1 119 4 = nI (zX_mo X) := hR.2.2.2.2.1
  have hpa : ∀ e, zT_pa T e ≤ 5 := hT.2.2.2.2.2.2.2.2.2
  have hwe : ∀ e, zX_we X e ≤ 5 := hX.2.2.2.1
  -- rule 1
  have e1 : zv_ev (dp + 3) 161 [.ref 116, .ref 119, .int (nI i), .int (nI s), .int 1] zS0 (Dm.1, Dm.2) = zo_i (nI (zf_mn s (fun e => nI (zT_pa T e)))) (Dm.1, Dm.2) := ev_leave_119 (dp := dp + 1) (Dm := (Dm.1, Dm.2)) hs (fun e he hb => (ev_weigh1_119 (dp := dp) (Dm.1, Dm.2) (nI i) he).trans (by rw [(hex e he hb).2.2.1])) (fun e he hb => zi_ne9 (by have := hpa e; omega))
  have a16 := zf_mn_lt s (fun e => nI (zT_pa T e))
  have asub : ∀ e, e < 4 → (zf_mn s (fun e => nI (zT_pa T e))).testBit e = true → s.testBit e = true := fun e he hb => zf_mn_sub he hb
  -- rule 2
  have b16 : zf_r2 (zX_mo X) (zf_mn s (fun e => nI (zT_pa T e))) (fun e => nI (zT_ne T e)) (fun e => nI (zX_we X e)) < 16 := zf_r2_lt a16
  have bsub : ∀ e, e < 4 → (zf_r2 (zX_mo X) (zf_mn s (fun e => nI (zT_pa T e))) (fun e => nI (zT_ne T e)) (fun e => nI (zX_we X e))).testBit e = true → s.testBit e = true := fun e he hb => asub e he (zf_r2_sub he hb)
  have c16 := zf_ow_lt (ho := za_ho T i) b16
  have csub : ∀ e, e < 4 → (zf_ow (zf_r2 (zX_mo X) (zf_mn s (fun e => nI (zT_pa T e))) (fun e => nI (zT_ne T e)) (fun e => nI (zX_we X e))) (za_ho T i)).testBit e = true → s.testBit e = true := fun e he hb => bsub e he (zf_ow_sub hb)
  have hhb : ∀ e, e < 4 → s.testBit e = true → ((za_ho T i).testBit e = true ↔ zT_pl T e = i) := by
    intro e he hb
    unfold za_ho
    rw [zf_set_tb]
    unfold za_at
    simp [he, (hsm e he hb).1]
  have hst := zd_X9_best_p119 (zv_ev (dp + 3)) Dm.1 Dm.2 (nI i) (nI s)
  rw [e1] at hst
  simp only [Option.bind_some] at hst
  have e40 : zv_m zt_X9_best (zv_ev (dp + 3)) false 0 [some (.ref 116), some (.ref 119), some (.int (nI i)), some (.int (nI s)), none, none, none] [] zS0 (Dm.1, Dm.2) = zv_m zt_X9_best (zv_ev (dp + 3)) false 40 [some (.ref 116), some (.ref 119), some (.int (nI i)), some (.int (nI s)), some (.int (nI (zf_r2 (zX_mo X) (zf_mn s (fun e => nI (zT_pa T e))) (fun e => nI (zT_ne T e)) (fun e => nI (zX_we X e))))), some (.int 3), none] [] zS0 (Dm.1, Dm.2) := by
    have mle := hX.2.2.2.2.2.2
    refine hst.trans ?_
    rw [hmo]
    unfold zf_r2
    by_cases m0 : zX_mo X = 0
    · rw [if_pos ((zi_0 (by omega)).mpr m0), if_pos m0, ev_neighbours_119 (dp := dp + 1) (Dm := (Dm.1, Dm.2)) a16]
      simp only [Option.bind_some]
      rw [zf_nb_congr (n2 := fun e => nI (zT_ne T e)) (k2 := fun e => nI (zX_we X e)) (fun e he hb => (hex e he (asub e he hb)).2.1) (fun e he hb => (hex e he (asub e he hb)).2.2.2)]
    · rw [if_neg (fun z => m0 ((zi_0 (by omega)).mp z)), if_neg m0]
      by_cases m1 : zX_mo X = 1
      · rw [if_pos m1, ev_leave_119 (dp := dp + 1) (Dm := (Dm.1, Dm.2)) (ky := fun e => nI (zX_we X e)) a16 (fun e he hb => (ev_weigh2_119 (dp := dp) (Dm.1, Dm.2) (nI i) he).trans (by rw [if_pos (by rw [hmo, m1]; rfl), (hex e he (asub e he hb)).2.2.2])) (fun e he hb => zi_ne9 (by have := hwe e; omega))]
        rfl
      · rw [if_neg m1, ev_leave_119 (dp := dp + 1) (Dm := (Dm.1, Dm.2)) (ky := fun _ => 0) a16 (fun e he hb => (ev_weigh2_119 (dp := dp) (Dm.1, Dm.2) (nI i) he).trans (by rw [if_neg (by rw [hmo]; exact fun z => m1 ((nI_eq (b := 1) (by omega) (by decide)).mp z))])) (fun e he hb => by decide), zf_mn_0 a16]
        rfl
  have e3 : zv_ev (dp + 3) 161 [.ref 116, .ref 119, .int (nI i), .int (nI (zf_r2 (zX_mo X) (zf_mn s (fun e => nI (zT_pa T e))) (fun e => nI (zT_ne T e)) (fun e => nI (zX_we X e)))), .int 3] zS0 (Dm.1, Dm.2) = zo_i (nI (zf_ow (zf_r2 (zX_mo X) (zf_mn s (fun e => nI (zT_pa T e))) (fun e => nI (zT_ne T e)) (fun e => nI (zX_we X e))) (za_ho T i))) (Dm.1, Dm.2) := by
    refine (ev_leave_119 (dp := dp + 1) (Dm := (Dm.1, Dm.2)) (ky := fun e => if (za_ho T i).testBit e = true then 0 else 1) b16 (fun e he hb => (ev_weigh3_119 (dp := dp) (Dm.1, Dm.2) (nI i) he).trans ?_) (fun e he hb => ?_)).trans ?_
    · by_cases hp : zT_pl T e = i
      · rw [if_pos ((hsm e he (bsub e he hb)).2.2.mpr hp), if_pos ((hhb e he (bsub e he hb)).mpr hp)]
      · rw [if_neg (fun z => hp ((hsm e he (bsub e he hb)).2.2.mp z)), if_neg (fun z => hp ((hhb e he (bsub e he hb)).mp z))]
    · split <;> decide
    · rw [zf_mn_ow b16 (za_ho_lt T i)]
  have e4 : zv_ev (dp + 3) 161 [.ref 116, .ref 119, .int (nI i), .int (nI (zf_ow (zf_r2 (zX_mo X) (zf_mn s (fun e => nI (zT_pa T e))) (fun e => nI (zT_ne T e)) (fun e => nI (zX_we X e))) (za_ho T i))), .int 4] zS0 (Dm.1, Dm.2) = zo_i (nI (zf_mn (zf_ow (zf_r2 (zX_mo X) (zf_mn s (fun e => nI (zT_pa T e))) (fun e => nI (zT_ne T e)) (fun e => nI (zX_we X e))) (za_ho T i)) (fun e => nI (za_di (zX_co X) i (zT_pl T e))))) (Dm.1, Dm.2) := by
    refine ev_leave_119 (dp := dp + 1) (Dm := (Dm.1, Dm.2)) c16 (fun e he hb => ?_) (fun e he hb => ?_)
    · have hx := hsm e he (csub e he hb)
      refine (ev_weigh4_119 (dp := dp) (Dm.1, Dm.2) (by omega) he (hex e he (csub e he hb)).1 (hT.2.2.2.2.2.2.1 e)).trans ?_
      have := hK i (zT_pl T e) hi (hT.2.2.2.2.2.2.2.1 e hx.1)
      rw [if_pos hx.2.1] at this
      dsimp only
      rw [this]
    · have hx := hsm e he (csub e he hb)
      exact zi_ne9 (by omega)
  have d16 := zf_mn_lt (zf_ow (zf_r2 (zX_mo X) (zf_mn s (fun e => nI (zT_pa T e))) (fun e => nI (zT_ne T e)) (fun e => nI (zX_we X e))) (za_ho T i)) (fun e => nI (za_di (zX_co X) i (zT_pl T e)))
  have e5 : ∀ t, t < 16 → zv_ev (dp + 3) 161 [.ref 116, .ref 119, .int (nI i), .int (nI t), .int 5] zS0 (Dm.1, Dm.2) = zo_i (nI (zf_mn t (fun e => nI e))) (Dm.1, Dm.2) := fun t ht => ev_leave_119 (dp := dp + 1) (Dm := (Dm.1, Dm.2)) ht (fun e he hb => ev_weigh5_119 (dp := dp) (Dm.1, Dm.2) (nI i) (nI e)) (fun e he hb => zi_ne9 (by omega))
  have e72 : ∀ t (u0 u1 u2 u3 : Option Value), t < 16 → zv_m zt_X9_best (zv_ev (dp + 3)) false 72 [u0, u1, u2, u3, some (.int (nI t)), some (.int (-9)), some (.int 0)] [] zS0 (Dm.1, Dm.2) = zv_ri (zf_hi t) zS0 (Dm.1, Dm.2) := by
    intro t u0 u1 u2 u3 ht
    have st : ∀ k (x : Int32), k < 4 → zv_m zt_X9_best (zv_ev (dp + 3)) false 72 [u0, u1, u2, u3, some (.int (nI t)), some (.int x), some (.int (nI k))] [] zS0 (Dm.1, Dm.2) = zv_m zt_X9_best (zv_ev (dp + 3)) false 72 [u0, u1, u2, u3, some (.int (nI t)), some (.int (if t.testBit k = true then nI k else x)), some (.int (nI (k + 1)))] [] zS0 (Dm.1, Dm.2) := by
      intro k x hk
      rw [zd_X9_best_p119_72, if_neg (zi_ge 4 4 rfl hk (by decide)), zi_has (dp := dp + 2) (Dm.1, Dm.2) (by omega) (by omega), nI_1]
      simp only [Option.bind_some]
      by_cases hb : t.testBit k = true
      · rw [if_pos hb, if_pos hb, if_neg (by decide)]
      · rw [if_neg hb, if_neg hb, if_pos rfl]
    refine (st 0 (-9) (by decide)).trans ?_
    rw [st 1 _ (by decide), st 2 _ (by decide), st 3 _ (by decide), zd_X9_best_p119_72, if_pos (zi_le 4 4 rfl (by decide) (by decide))]
    unfold zf_hi
    rfl
  refine zs_X9_best_p119 (e40.trans ?_)
  rw [zd_X9_best_p119_40, if_neg (by decide), e3]
  simp only [Option.bind_some]
  rw [show (3 : Int32) + 1 = 4 from rfl, zd_X9_best_p119_40, if_neg (by decide), e4]
  simp only [Option.bind_some]
  rw [show (4 : Int32) + 1 = 5 from rfl, zd_X9_best_p119_40, if_neg (by decide), e5 _ d16]
  simp only [Option.bind_some]
  rw [show (5 : Int32) + 1 = 6 from rfl, zd_X9_best_p119_40, if_pos (by decide), e72 _ _ _ _ _ (zf_mn_lt _ _), zf_hi_lo d16]
  rfl
theorem ev_neighbours_120 {dp : Nat} {Dm : zv_D} {s : Nat} (hs : s < 16) : zv_ev (dp + 2) 162 [.ref 116, .ref 120, .int (nI s)] zS0 Dm = zo_i (nI (zf_nb s (fun e => Dm.1 120 (55 + 4 * e + 1)) (fun e => Dm.1 120 (55 + 4 * e + 3)))) Dm := by
  obtain ⟨u1, -, r1⟩ := zl_up (σ := Option Value × Option Value × Option Value) (fun k u => zv_m zt_X9_leaveByNeighbours (zv_ev (dp + 1)) false 5 [some (.ref 116), some (.ref 120), some (.int (nI s)), some (.int (nI (zf_nk s (fun e => Dm.1 120 (55 + 4 * e + 1)) (fun e => Dm.1 120 (55 + 4 * e + 3)) k))), some (.int (nI k)), u.1, u.2.1, u.2.2] [] zS0 (Dm.1, Dm.2)) 16 (fun _ _ => True) (by
    intro k u hk _
    have hl := zf_nk_lt (fun e => Dm.1 120 (55 + 4 * e + 1)) (fun e => Dm.1 120 (55 + 4 * e + 3)) hs k
    have hst := zd_X9_leaveByNeighbours_p120_5 (zv_ev (dp + 1)) Dm.1 Dm.2 (some (.ref 116)) (nI s) (nI (zf_nk s (fun e => Dm.1 120 (55 + 4 * e + 1)) (fun e => Dm.1 120 (55 + 4 * e + 3)) k)) (nI k) u.1 u.2.1 u.2.2
    have hd : nI k / 4 = nI (k / 4) := pk_div (d := 4) (by omega) (by decide) (by decide)
    have hr : nI k - nI (k / 4) * 4 = nI (k % 4) := by rw [← hd]; exact pk_rem (d := 4) (by omega) (by decide) (by decide)
    rw [if_neg (zi_ge 16 16 rfl hk (by decide)), hd, hr, zi_has (dp := dp) (Dm.1, Dm.2) (by omega) (by omega), nI_1, zi_am hl, zi_rm hl (by omega)] at hst
    simp only [Option.bind_some] at hst
    show ∃ u' : Option Value × Option Value × Option Value, True ∧ _ = zv_m zt_X9_leaveByNeighbours (zv_ev (dp + 1)) false 5 [some (.ref 116), some (.ref 120), some (.int (nI s)), some (.int (nI (if zf_ls s (fun e => Dm.1 120 (55 + 4 * e + 1)) (fun e => Dm.1 120 (55 + 4 * e + 3)) (k / 4) (k % 4) = true then za_rm (zf_nk s (fun e => Dm.1 120 (55 + 4 * e + 1)) (fun e => Dm.1 120 (55 + 4 * e + 3)) k) (k / 4) else zf_nk s (fun e => Dm.1 120 (55 + 4 * e + 1)) (fun e => Dm.1 120 (55 + 4 * e + 3)) k))), some (.int (nI (k + 1))), u'.1, u'.2.1, u'.2.2] [] zS0 (Dm.1, Dm.2)
    by_cases b1 : s.testBit (k / 4) = true
    · rw [if_pos b1, if_neg (by decide), zi_has (dp := dp) (Dm.1, Dm.2) (by omega) (by omega)] at hst
      simp only [Option.bind_some] at hst
      by_cases b2 : s.testBit (k % 4) = true
      · rw [if_pos b2, if_neg (by decide), show (1 : Int32) = nI 1 from rfl, ev_mexitOf_120 (dp := dp) (Dm.1, Dm.2) (by omega) (by decide), ] at hst
        simp only [Option.bind_some] at hst
        rw [ev_mexitOf_120 (dp := dp) (Dm.1, Dm.2) (by omega) (by decide)] at hst
        simp only [Option.bind_some] at hst
        by_cases b3 : Dm.1 120 (55 + 4 * (k / 4) + 1) = Dm.1 120 (55 + 4 * (k % 4) + 1)
        · rw [if_pos b3, show (3 : Int32) = nI 3 from rfl, ev_mexitOf_120 (dp := dp) (Dm.1, Dm.2) (by omega) (by decide)] at hst
          simp only [Option.bind_some] at hst
          rw [ev_mexitOf_120 (dp := dp) (Dm.1, Dm.2) (by omega) (by decide)] at hst
          simp only [Option.bind_some] at hst
          by_cases b4 : Dm.1 120 (55 + 4 * (k / 4) + 3) ≤ Dm.1 120 (55 + 4 * (k % 4) + 3)
          · rw [if_pos b4] at hst
            rw [if_neg (by unfold zf_ls; simp only [b1, b2, decide_eq_true b3, Bool.true_and, decide_eq_true_eq]; exact Int32.not_lt.mpr b4)]
            exact ⟨(_, _, _), trivial, hst⟩
          · rw [if_neg b4] at hst
            rw [if_pos (by unfold zf_ls; simp only [b1, b2, decide_eq_true b3, Bool.true_and, decide_eq_true_eq]; exact Int32.not_le.mp b4)]
            exact ⟨(_, _, _), trivial, hst⟩
        · rw [if_neg b3] at hst
          rw [if_neg (by unfold zf_ls; simp only [decide_eq_false b3, Bool.false_and, Bool.and_false]; decide)]
          exact ⟨(_, _, _), trivial, hst⟩
      · rw [if_neg b2, if_pos rfl] at hst
        rw [if_neg (by unfold zf_ls; simp [b2])]
        exact ⟨(_, _, _), trivial, hst⟩
    · rw [if_neg b1, if_pos rfl] at hst
      rw [if_neg (by unfold zf_ls; simp [b1])]
      exact ⟨(_, _, _), trivial, hst⟩) (none, none, none) trivial
  refine zs_X9_leaveByNeighbours_p120 ((zd_X9_leaveByNeighbours_p120 _ Dm.1 Dm.2 _).trans (r1.trans ?_))
  rw [zd_X9_leaveByNeighbours_p120_5, if_pos (zi_le 16 16 rfl (by decide) (by decide)), zf_nk_16 hs]
theorem ev_weigh1_120 {dp : Nat} (Dm : zv_D) (i : Int32) {e : Nat} (he : e < 4) : zv_ev (dp + 2) 160 [.ref 116, .ref 120, .int i, .int (nI e), .int 1] zS0 Dm = zo_i (Dm.1 120 (55 + 4 * e + 2)) Dm := by
  refine zs_X9_weighed_p120 ((zd_X9_weighed_p120 _ Dm.1 Dm.2 i (nI e) 1).trans ?_)
  rw [if_pos rfl, show (2 : Int32) = nI 2 from rfl, ev_mexitOf_120 (dp := dp) (Dm.1, Dm.2) he (by decide)]
  rfl
theorem ev_weigh2_120 {dp : Nat} (Dm : zv_D) (i : Int32) {e : Nat} (he : e < 4) : zv_ev (dp + 2) 160 [.ref 116, .ref 120, .int i, .int (nI e), .int 2] zS0 Dm = zo_i (if Dm.1 120 4 = 1 then Dm.1 120 (55 + 4 * e + 3) else 0) Dm := by
  refine zs_X9_weighed_p120 ((zd_X9_weighed_p120 _ Dm.1 Dm.2 i (nI e) 2).trans ?_)
  rw [if_neg (by decide), if_pos rfl, show (3 : Int32) = nI 3 from rfl, ev_mexitOf_120 (dp := dp) (Dm.1, Dm.2) he (by decide)]
  by_cases h : Dm.1 120 4 = 1
  · rw [if_pos h, if_pos h]; rfl
  · rw [if_neg h, if_neg h]
theorem ev_weigh3_120 {dp : Nat} (Dm : zv_D) (i : Int32) {e : Nat} (he : e < 4) : zv_ev (dp + 2) 160 [.ref 116, .ref 120, .int i, .int (nI e), .int 3] zS0 Dm = zo_i (if Dm.1 129 e = i then 0 else 1) Dm := by
  refine zs_X9_weighed_p120 ((zd_X9_weighed_p120 _ Dm.1 Dm.2 i (nI e) 3).trans ?_)
  rw [if_neg (by decide), if_neg (by decide), if_pos rfl, zi_in he (by decide), nI_clamp (by omega), cond_true]
  by_cases h : Dm.1 129 e = i
  · rw [if_pos h, if_pos h]
  · rw [if_neg h, if_neg h]
theorem ev_weigh4_120 {dp : Nat} (Dm : zv_D) {i e pl : Nat} (hi : i < 5) (he : e < 4) (hp : Dm.1 120 (55 + 4 * e + 0) = nI pl) (hpl : pl < 5) : zv_ev (dp + 2) 160 [.ref 116, .ref 120, .int (nI i), .int (nI e), .int 4] zS0 Dm = zo_i (Dm.1 128 (5 * i + pl)) Dm := by
  refine zs_X9_weighed_p120 ((zd_X9_weighed_p120 _ Dm.1 Dm.2 (nI i) (nI e) 4).trans ?_)
  rw [if_neg (by decide), if_neg (by decide), if_neg (by decide), if_pos rfl, show (0 : Int32) = nI 0 from rfl, ev_mexitOf_120 (dp := dp) (Dm.1, Dm.2) he (by decide)]
  simp only [Option.bind_some]
  rw [hp, zx_5, zi_in (n := 25) (by omega) (by decide), nI_clamp (by omega)]
  rfl
theorem ev_weigh5_120 {dp : Nat} (Dm : zv_D) (i : Int32) (e : Int32) : zv_ev (dp + 2) 160 [.ref 116, .ref 120, .int i, .int e, .int 5] zS0 Dm = zo_i e Dm := by
  refine zs_X9_weighed_p120 ((zd_X9_weighed_p120 _ Dm.1 Dm.2 i e 5).trans ?_)
  rw [if_neg (by decide), if_neg (by decide), if_neg (by decide), if_neg (by decide)]
theorem ev_best_120 {dp : Nat} {Dm : zv_D} {T : zT} {X : zX} {A : zA} {i s : Nat} (hT : zT_ok T) (hX : zX_ok T X) (hR : zM_R (Dm.1 120) T X A) (hK : zM_K Dm.1 T X) (hi : i < zT_n T) (hs : s < 16) (hsm : ∀ e, e < 4 → s.testBit e = true → e < zT_m T ∧ za_di (zX_co X) i (zT_pl T e) < 1000 ∧ (Dm.1 129 e = nI i ↔ zT_pl T e = i)) :
    zv_ev (dp + 4) 163 [.ref 116, .ref 120, .int (nI i), .int (nI s)] zS0 Dm = zo_i (zf_p9 (za_pk T X i s)) Dm := by
  have h5 := hT.2.1
  have hex : ∀ e, e < 4 → s.testBit e = true → Dm.1 120 (55 + 4 * e + 0) = nI (zT_pl T e) ∧ Dm.1 120 (55 + 4 * e + 1) = nI (zT_ne T e) ∧ Dm.1 120 (55 + 4 * e + 2) = nI (zT_pa T e) ∧ Dm.1 120 (55 + 4 * e + 3) = nI (zX_we X e) := fun e he hb => hR.2.2.2.2.2.2.2.1 e (hsm e he hb).1
  have hmo : Dm.1 120 4 = nI (zX_mo X) := hR.2.2.2.2.1
  have hpa : ∀ e, zT_pa T e ≤ 5 := hT.2.2.2.2.2.2.2.2.2
  have hwe : ∀ e, zX_we X e ≤ 5 := hX.2.2.2.1
  -- rule 1
  have e1 : zv_ev (dp + 3) 161 [.ref 116, .ref 120, .int (nI i), .int (nI s), .int 1] zS0 (Dm.1, Dm.2) = zo_i (nI (zf_mn s (fun e => nI (zT_pa T e)))) (Dm.1, Dm.2) := ev_leave_120 (dp := dp + 1) (Dm := (Dm.1, Dm.2)) hs (fun e he hb => (ev_weigh1_120 (dp := dp) (Dm.1, Dm.2) (nI i) he).trans (by rw [(hex e he hb).2.2.1])) (fun e he hb => zi_ne9 (by have := hpa e; omega))
  have a16 := zf_mn_lt s (fun e => nI (zT_pa T e))
  have asub : ∀ e, e < 4 → (zf_mn s (fun e => nI (zT_pa T e))).testBit e = true → s.testBit e = true := fun e he hb => zf_mn_sub he hb
  -- rule 2
  have b16 : zf_r2 (zX_mo X) (zf_mn s (fun e => nI (zT_pa T e))) (fun e => nI (zT_ne T e)) (fun e => nI (zX_we X e)) < 16 := zf_r2_lt a16
  have bsub : ∀ e, e < 4 → (zf_r2 (zX_mo X) (zf_mn s (fun e => nI (zT_pa T e))) (fun e => nI (zT_ne T e)) (fun e => nI (zX_we X e))).testBit e = true → s.testBit e = true := fun e he hb => asub e he (zf_r2_sub he hb)
  have c16 := zf_ow_lt (ho := za_ho T i) b16
  have csub : ∀ e, e < 4 → (zf_ow (zf_r2 (zX_mo X) (zf_mn s (fun e => nI (zT_pa T e))) (fun e => nI (zT_ne T e)) (fun e => nI (zX_we X e))) (za_ho T i)).testBit e = true → s.testBit e = true := fun e he hb => bsub e he (zf_ow_sub hb)
  have hhb : ∀ e, e < 4 → s.testBit e = true → ((za_ho T i).testBit e = true ↔ zT_pl T e = i) := by
    intro e he hb
    unfold za_ho
    rw [zf_set_tb]
    unfold za_at
    simp [he, (hsm e he hb).1]
  have hst := zd_X9_best_p120 (zv_ev (dp + 3)) Dm.1 Dm.2 (nI i) (nI s)
  rw [e1] at hst
  simp only [Option.bind_some] at hst
  have e40 : zv_m zt_X9_best (zv_ev (dp + 3)) false 0 [some (.ref 116), some (.ref 120), some (.int (nI i)), some (.int (nI s)), none, none, none] [] zS0 (Dm.1, Dm.2) = zv_m zt_X9_best (zv_ev (dp + 3)) false 40 [some (.ref 116), some (.ref 120), some (.int (nI i)), some (.int (nI s)), some (.int (nI (zf_r2 (zX_mo X) (zf_mn s (fun e => nI (zT_pa T e))) (fun e => nI (zT_ne T e)) (fun e => nI (zX_we X e))))), some (.int 3), none] [] zS0 (Dm.1, Dm.2) := by
    have mle := hX.2.2.2.2.2.2
    refine hst.trans ?_
    rw [hmo]
    unfold zf_r2
    by_cases m0 : zX_mo X = 0
    · rw [if_pos ((zi_0 (by omega)).mpr m0), if_pos m0, ev_neighbours_120 (dp := dp + 1) (Dm := (Dm.1, Dm.2)) a16]
      simp only [Option.bind_some]
      rw [zf_nb_congr (n2 := fun e => nI (zT_ne T e)) (k2 := fun e => nI (zX_we X e)) (fun e he hb => (hex e he (asub e he hb)).2.1) (fun e he hb => (hex e he (asub e he hb)).2.2.2)]
    · rw [if_neg (fun z => m0 ((zi_0 (by omega)).mp z)), if_neg m0]
      by_cases m1 : zX_mo X = 1
      · rw [if_pos m1, ev_leave_120 (dp := dp + 1) (Dm := (Dm.1, Dm.2)) (ky := fun e => nI (zX_we X e)) a16 (fun e he hb => (ev_weigh2_120 (dp := dp) (Dm.1, Dm.2) (nI i) he).trans (by rw [if_pos (by rw [hmo, m1]; rfl), (hex e he (asub e he hb)).2.2.2])) (fun e he hb => zi_ne9 (by have := hwe e; omega))]
        rfl
      · rw [if_neg m1, ev_leave_120 (dp := dp + 1) (Dm := (Dm.1, Dm.2)) (ky := fun _ => 0) a16 (fun e he hb => (ev_weigh2_120 (dp := dp) (Dm.1, Dm.2) (nI i) he).trans (by rw [if_neg (by rw [hmo]; exact fun z => m1 ((nI_eq (b := 1) (by omega) (by decide)).mp z))])) (fun e he hb => by decide), zf_mn_0 a16]
        rfl
  have e3 : zv_ev (dp + 3) 161 [.ref 116, .ref 120, .int (nI i), .int (nI (zf_r2 (zX_mo X) (zf_mn s (fun e => nI (zT_pa T e))) (fun e => nI (zT_ne T e)) (fun e => nI (zX_we X e)))), .int 3] zS0 (Dm.1, Dm.2) = zo_i (nI (zf_ow (zf_r2 (zX_mo X) (zf_mn s (fun e => nI (zT_pa T e))) (fun e => nI (zT_ne T e)) (fun e => nI (zX_we X e))) (za_ho T i))) (Dm.1, Dm.2) := by
    refine (ev_leave_120 (dp := dp + 1) (Dm := (Dm.1, Dm.2)) (ky := fun e => if (za_ho T i).testBit e = true then 0 else 1) b16 (fun e he hb => (ev_weigh3_120 (dp := dp) (Dm.1, Dm.2) (nI i) he).trans ?_) (fun e he hb => ?_)).trans ?_
    · by_cases hp : zT_pl T e = i
      · rw [if_pos ((hsm e he (bsub e he hb)).2.2.mpr hp), if_pos ((hhb e he (bsub e he hb)).mpr hp)]
      · rw [if_neg (fun z => hp ((hsm e he (bsub e he hb)).2.2.mp z)), if_neg (fun z => hp ((hhb e he (bsub e he hb)).mp z))]
    · split <;> decide
    · rw [zf_mn_ow b16 (za_ho_lt T i)]
  have e4 : zv_ev (dp + 3) 161 [.ref 116, .ref 120, .int (nI i), .int (nI (zf_ow (zf_r2 (zX_mo X) (zf_mn s (fun e => nI (zT_pa T e))) (fun e => nI (zT_ne T e)) (fun e => nI (zX_we X e))) (za_ho T i))), .int 4] zS0 (Dm.1, Dm.2) = zo_i (nI (zf_mn (zf_ow (zf_r2 (zX_mo X) (zf_mn s (fun e => nI (zT_pa T e))) (fun e => nI (zT_ne T e)) (fun e => nI (zX_we X e))) (za_ho T i)) (fun e => nI (za_di (zX_co X) i (zT_pl T e))))) (Dm.1, Dm.2) := by
    refine ev_leave_120 (dp := dp + 1) (Dm := (Dm.1, Dm.2)) c16 (fun e he hb => ?_) (fun e he hb => ?_)
    · have hx := hsm e he (csub e he hb)
      refine (ev_weigh4_120 (dp := dp) (Dm.1, Dm.2) (by omega) he (hex e he (csub e he hb)).1 (hT.2.2.2.2.2.2.1 e)).trans ?_
      have := hK i (zT_pl T e) hi (hT.2.2.2.2.2.2.2.1 e hx.1)
      rw [if_pos hx.2.1] at this
      dsimp only
      rw [this]
    · have hx := hsm e he (csub e he hb)
      exact zi_ne9 (by omega)
  have d16 := zf_mn_lt (zf_ow (zf_r2 (zX_mo X) (zf_mn s (fun e => nI (zT_pa T e))) (fun e => nI (zT_ne T e)) (fun e => nI (zX_we X e))) (za_ho T i)) (fun e => nI (za_di (zX_co X) i (zT_pl T e)))
  have e5 : ∀ t, t < 16 → zv_ev (dp + 3) 161 [.ref 116, .ref 120, .int (nI i), .int (nI t), .int 5] zS0 (Dm.1, Dm.2) = zo_i (nI (zf_mn t (fun e => nI e))) (Dm.1, Dm.2) := fun t ht => ev_leave_120 (dp := dp + 1) (Dm := (Dm.1, Dm.2)) ht (fun e he hb => ev_weigh5_120 (dp := dp) (Dm.1, Dm.2) (nI i) (nI e)) (fun e he hb => zi_ne9 (by omega))
  have e72 : ∀ t (u0 u1 u2 u3 : Option Value), t < 16 → zv_m zt_X9_best (zv_ev (dp + 3)) false 72 [u0, u1, u2, u3, some (.int (nI t)), some (.int (-9)), some (.int 0)] [] zS0 (Dm.1, Dm.2) = zv_ri (zf_hi t) zS0 (Dm.1, Dm.2) := by
    intro t u0 u1 u2 u3 ht
    have st : ∀ k (x : Int32), k < 4 → zv_m zt_X9_best (zv_ev (dp + 3)) false 72 [u0, u1, u2, u3, some (.int (nI t)), some (.int x), some (.int (nI k))] [] zS0 (Dm.1, Dm.2) = zv_m zt_X9_best (zv_ev (dp + 3)) false 72 [u0, u1, u2, u3, some (.int (nI t)), some (.int (if t.testBit k = true then nI k else x)), some (.int (nI (k + 1)))] [] zS0 (Dm.1, Dm.2) := by
      intro k x hk
      rw [zd_X9_best_p120_72, if_neg (zi_ge 4 4 rfl hk (by decide)), zi_has (dp := dp + 2) (Dm.1, Dm.2) (by omega) (by omega), nI_1]
      simp only [Option.bind_some]
      by_cases hb : t.testBit k = true
      · rw [if_pos hb, if_pos hb, if_neg (by decide)]
      · rw [if_neg hb, if_neg hb, if_pos rfl]
    refine (st 0 (-9) (by decide)).trans ?_
    rw [st 1 _ (by decide), st 2 _ (by decide), st 3 _ (by decide), zd_X9_best_p120_72, if_pos (zi_le 4 4 rfl (by decide) (by decide))]
    unfold zf_hi
    rfl
  refine zs_X9_best_p120 (e40.trans ?_)
  rw [zd_X9_best_p120_40, if_neg (by decide), e3]
  simp only [Option.bind_some]
  rw [show (3 : Int32) + 1 = 4 from rfl, zd_X9_best_p120_40, if_neg (by decide), e4]
  simp only [Option.bind_some]
  rw [show (4 : Int32) + 1 = 5 from rfl, zd_X9_best_p120_40, if_neg (by decide), e5 _ d16]
  simp only [Option.bind_some]
  rw [show (5 : Int32) + 1 = 6 from rfl, zd_X9_best_p120_40, if_pos (by decide), e72 _ _ _ _ _ (zf_mn_lt _ _), zf_hi_lo d16]
  rfl
theorem ev_neighbours_121 {dp : Nat} {Dm : zv_D} {s : Nat} (hs : s < 16) : zv_ev (dp + 2) 162 [.ref 116, .ref 121, .int (nI s)] zS0 Dm = zo_i (nI (zf_nb s (fun e => Dm.1 121 (55 + 4 * e + 1)) (fun e => Dm.1 121 (55 + 4 * e + 3)))) Dm := by
  obtain ⟨u1, -, r1⟩ := zl_up (σ := Option Value × Option Value × Option Value) (fun k u => zv_m zt_X9_leaveByNeighbours (zv_ev (dp + 1)) false 5 [some (.ref 116), some (.ref 121), some (.int (nI s)), some (.int (nI (zf_nk s (fun e => Dm.1 121 (55 + 4 * e + 1)) (fun e => Dm.1 121 (55 + 4 * e + 3)) k))), some (.int (nI k)), u.1, u.2.1, u.2.2] [] zS0 (Dm.1, Dm.2)) 16 (fun _ _ => True) (by
    intro k u hk _
    have hl := zf_nk_lt (fun e => Dm.1 121 (55 + 4 * e + 1)) (fun e => Dm.1 121 (55 + 4 * e + 3)) hs k
    have hst := zd_X9_leaveByNeighbours_p121_5 (zv_ev (dp + 1)) Dm.1 Dm.2 (some (.ref 116)) (nI s) (nI (zf_nk s (fun e => Dm.1 121 (55 + 4 * e + 1)) (fun e => Dm.1 121 (55 + 4 * e + 3)) k)) (nI k) u.1 u.2.1 u.2.2
    have hd : nI k / 4 = nI (k / 4) := pk_div (d := 4) (by omega) (by decide) (by decide)
    have hr : nI k - nI (k / 4) * 4 = nI (k % 4) := by rw [← hd]; exact pk_rem (d := 4) (by omega) (by decide) (by decide)
    rw [if_neg (zi_ge 16 16 rfl hk (by decide)), hd, hr, zi_has (dp := dp) (Dm.1, Dm.2) (by omega) (by omega), nI_1, zi_am hl, zi_rm hl (by omega)] at hst
    simp only [Option.bind_some] at hst
    show ∃ u' : Option Value × Option Value × Option Value, True ∧ _ = zv_m zt_X9_leaveByNeighbours (zv_ev (dp + 1)) false 5 [some (.ref 116), some (.ref 121), some (.int (nI s)), some (.int (nI (if zf_ls s (fun e => Dm.1 121 (55 + 4 * e + 1)) (fun e => Dm.1 121 (55 + 4 * e + 3)) (k / 4) (k % 4) = true then za_rm (zf_nk s (fun e => Dm.1 121 (55 + 4 * e + 1)) (fun e => Dm.1 121 (55 + 4 * e + 3)) k) (k / 4) else zf_nk s (fun e => Dm.1 121 (55 + 4 * e + 1)) (fun e => Dm.1 121 (55 + 4 * e + 3)) k))), some (.int (nI (k + 1))), u'.1, u'.2.1, u'.2.2] [] zS0 (Dm.1, Dm.2)
    by_cases b1 : s.testBit (k / 4) = true
    · rw [if_pos b1, if_neg (by decide), zi_has (dp := dp) (Dm.1, Dm.2) (by omega) (by omega)] at hst
      simp only [Option.bind_some] at hst
      by_cases b2 : s.testBit (k % 4) = true
      · rw [if_pos b2, if_neg (by decide), show (1 : Int32) = nI 1 from rfl, ev_mexitOf_121 (dp := dp) (Dm.1, Dm.2) (by omega) (by decide), ] at hst
        simp only [Option.bind_some] at hst
        rw [ev_mexitOf_121 (dp := dp) (Dm.1, Dm.2) (by omega) (by decide)] at hst
        simp only [Option.bind_some] at hst
        by_cases b3 : Dm.1 121 (55 + 4 * (k / 4) + 1) = Dm.1 121 (55 + 4 * (k % 4) + 1)
        · rw [if_pos b3, show (3 : Int32) = nI 3 from rfl, ev_mexitOf_121 (dp := dp) (Dm.1, Dm.2) (by omega) (by decide)] at hst
          simp only [Option.bind_some] at hst
          rw [ev_mexitOf_121 (dp := dp) (Dm.1, Dm.2) (by omega) (by decide)] at hst
          simp only [Option.bind_some] at hst
          by_cases b4 : Dm.1 121 (55 + 4 * (k / 4) + 3) ≤ Dm.1 121 (55 + 4 * (k % 4) + 3)
          · rw [if_pos b4] at hst
            rw [if_neg (by unfold zf_ls; simp only [b1, b2, decide_eq_true b3, Bool.true_and, decide_eq_true_eq]; exact Int32.not_lt.mpr b4)]
            exact ⟨(_, _, _), trivial, hst⟩
          · rw [if_neg b4] at hst
            rw [if_pos (by unfold zf_ls; simp only [b1, b2, decide_eq_true b3, Bool.true_and, decide_eq_true_eq]; exact Int32.not_le.mp b4)]
            exact ⟨(_, _, _), trivial, hst⟩
        · rw [if_neg b3] at hst
          rw [if_neg (by unfold zf_ls; simp only [decide_eq_false b3, Bool.false_and, Bool.and_false]; decide)]
          exact ⟨(_, _, _), trivial, hst⟩
      · rw [if_neg b2, if_pos rfl] at hst
        rw [if_neg (by unfold zf_ls; simp [b2])]
        exact ⟨(_, _, _), trivial, hst⟩
    · rw [if_neg b1, if_pos rfl] at hst
      rw [if_neg (by unfold zf_ls; simp [b1])]
      exact ⟨(_, _, _), trivial, hst⟩) (none, none, none) trivial
  refine zs_X9_leaveByNeighbours_p121 ((zd_X9_leaveByNeighbours_p121 _ Dm.1 Dm.2 _).trans (r1.trans ?_))
  rw [zd_X9_leaveByNeighbours_p121_5, if_pos (zi_le 16 16 rfl (by decide) (by decide)), zf_nk_16 hs]
theorem ev_weigh1_121 {dp : Nat} (Dm : zv_D) (i : Int32) {e : Nat} (he : e < 4) : zv_ev (dp + 2) 160 [.ref 116, .ref 121, .int i, .int (nI e), .int 1] zS0 Dm = zo_i (Dm.1 121 (55 + 4 * e + 2)) Dm := by
  refine zs_X9_weighed_p121 ((zd_X9_weighed_p121 _ Dm.1 Dm.2 i (nI e) 1).trans ?_)
  rw [if_pos rfl, show (2 : Int32) = nI 2 from rfl, ev_mexitOf_121 (dp := dp) (Dm.1, Dm.2) he (by decide)]
  rfl
theorem ev_weigh2_121 {dp : Nat} (Dm : zv_D) (i : Int32) {e : Nat} (he : e < 4) : zv_ev (dp + 2) 160 [.ref 116, .ref 121, .int i, .int (nI e), .int 2] zS0 Dm = zo_i (if Dm.1 121 4 = 1 then Dm.1 121 (55 + 4 * e + 3) else 0) Dm := by
  refine zs_X9_weighed_p121 ((zd_X9_weighed_p121 _ Dm.1 Dm.2 i (nI e) 2).trans ?_)
  rw [if_neg (by decide), if_pos rfl, show (3 : Int32) = nI 3 from rfl, ev_mexitOf_121 (dp := dp) (Dm.1, Dm.2) he (by decide)]
  by_cases h : Dm.1 121 4 = 1
  · rw [if_pos h, if_pos h]; rfl
  · rw [if_neg h, if_neg h]
theorem ev_weigh3_121 {dp : Nat} (Dm : zv_D) (i : Int32) {e : Nat} (he : e < 4) : zv_ev (dp + 2) 160 [.ref 116, .ref 121, .int i, .int (nI e), .int 3] zS0 Dm = zo_i (if Dm.1 129 e = i then 0 else 1) Dm := by
  refine zs_X9_weighed_p121 ((zd_X9_weighed_p121 _ Dm.1 Dm.2 i (nI e) 3).trans ?_)
  rw [if_neg (by decide), if_neg (by decide), if_pos rfl, zi_in he (by decide), nI_clamp (by omega), cond_true]
  by_cases h : Dm.1 129 e = i
  · rw [if_pos h, if_pos h]
  · rw [if_neg h, if_neg h]
theorem ev_weigh4_121 {dp : Nat} (Dm : zv_D) {i e pl : Nat} (hi : i < 5) (he : e < 4) (hp : Dm.1 121 (55 + 4 * e + 0) = nI pl) (hpl : pl < 5) : zv_ev (dp + 2) 160 [.ref 116, .ref 121, .int (nI i), .int (nI e), .int 4] zS0 Dm = zo_i (Dm.1 128 (5 * i + pl)) Dm := by
  refine zs_X9_weighed_p121 ((zd_X9_weighed_p121 _ Dm.1 Dm.2 (nI i) (nI e) 4).trans ?_)
  rw [if_neg (by decide), if_neg (by decide), if_neg (by decide), if_pos rfl, show (0 : Int32) = nI 0 from rfl, ev_mexitOf_121 (dp := dp) (Dm.1, Dm.2) he (by decide)]
  simp only [Option.bind_some]
  rw [hp, zx_5, zi_in (n := 25) (by omega) (by decide), nI_clamp (by omega)]
  rfl
theorem ev_weigh5_121 {dp : Nat} (Dm : zv_D) (i : Int32) (e : Int32) : zv_ev (dp + 2) 160 [.ref 116, .ref 121, .int i, .int e, .int 5] zS0 Dm = zo_i e Dm := by
  refine zs_X9_weighed_p121 ((zd_X9_weighed_p121 _ Dm.1 Dm.2 i e 5).trans ?_)
  rw [if_neg (by decide), if_neg (by decide), if_neg (by decide), if_neg (by decide)]
theorem ev_best_121 {dp : Nat} {Dm : zv_D} {T : zT} {X : zX} {A : zA} {i s : Nat} (hT : zT_ok T) (hX : zX_ok T X) (hR : zM_R (Dm.1 121) T X A) (hK : zM_K Dm.1 T X) (hi : i < zT_n T) (hs : s < 16) (hsm : ∀ e, e < 4 → s.testBit e = true → e < zT_m T ∧ za_di (zX_co X) i (zT_pl T e) < 1000 ∧ (Dm.1 129 e = nI i ↔ zT_pl T e = i)) :
    zv_ev (dp + 4) 163 [.ref 116, .ref 121, .int (nI i), .int (nI s)] zS0 Dm = zo_i (zf_p9 (za_pk T X i s)) Dm := by
  have h5 := hT.2.1
  have hex : ∀ e, e < 4 → s.testBit e = true → Dm.1 121 (55 + 4 * e + 0) = nI (zT_pl T e) ∧ Dm.1 121 (55 + 4 * e + 1) = nI (zT_ne T e) ∧ Dm.1 121 (55 + 4 * e + 2) = nI (zT_pa T e) ∧ Dm.1 121 (55 + 4 * e + 3) = nI (zX_we X e) := fun e he hb => hR.2.2.2.2.2.2.2.1 e (hsm e he hb).1
  have hmo : Dm.1 121 4 = nI (zX_mo X) := hR.2.2.2.2.1
  have hpa : ∀ e, zT_pa T e ≤ 5 := hT.2.2.2.2.2.2.2.2.2
  have hwe : ∀ e, zX_we X e ≤ 5 := hX.2.2.2.1
  -- rule 1
  have e1 : zv_ev (dp + 3) 161 [.ref 116, .ref 121, .int (nI i), .int (nI s), .int 1] zS0 (Dm.1, Dm.2) = zo_i (nI (zf_mn s (fun e => nI (zT_pa T e)))) (Dm.1, Dm.2) := ev_leave_121 (dp := dp + 1) (Dm := (Dm.1, Dm.2)) hs (fun e he hb => (ev_weigh1_121 (dp := dp) (Dm.1, Dm.2) (nI i) he).trans (by rw [(hex e he hb).2.2.1])) (fun e he hb => zi_ne9 (by have := hpa e; omega))
  have a16 := zf_mn_lt s (fun e => nI (zT_pa T e))
  have asub : ∀ e, e < 4 → (zf_mn s (fun e => nI (zT_pa T e))).testBit e = true → s.testBit e = true := fun e he hb => zf_mn_sub he hb
  -- rule 2
  have b16 : zf_r2 (zX_mo X) (zf_mn s (fun e => nI (zT_pa T e))) (fun e => nI (zT_ne T e)) (fun e => nI (zX_we X e)) < 16 := zf_r2_lt a16
  have bsub : ∀ e, e < 4 → (zf_r2 (zX_mo X) (zf_mn s (fun e => nI (zT_pa T e))) (fun e => nI (zT_ne T e)) (fun e => nI (zX_we X e))).testBit e = true → s.testBit e = true := fun e he hb => asub e he (zf_r2_sub he hb)
  have c16 := zf_ow_lt (ho := za_ho T i) b16
  have csub : ∀ e, e < 4 → (zf_ow (zf_r2 (zX_mo X) (zf_mn s (fun e => nI (zT_pa T e))) (fun e => nI (zT_ne T e)) (fun e => nI (zX_we X e))) (za_ho T i)).testBit e = true → s.testBit e = true := fun e he hb => bsub e he (zf_ow_sub hb)
  have hhb : ∀ e, e < 4 → s.testBit e = true → ((za_ho T i).testBit e = true ↔ zT_pl T e = i) := by
    intro e he hb
    unfold za_ho
    rw [zf_set_tb]
    unfold za_at
    simp [he, (hsm e he hb).1]
  have hst := zd_X9_best_p121 (zv_ev (dp + 3)) Dm.1 Dm.2 (nI i) (nI s)
  rw [e1] at hst
  simp only [Option.bind_some] at hst
  have e40 : zv_m zt_X9_best (zv_ev (dp + 3)) false 0 [some (.ref 116), some (.ref 121), some (.int (nI i)), some (.int (nI s)), none, none, none] [] zS0 (Dm.1, Dm.2) = zv_m zt_X9_best (zv_ev (dp + 3)) false 40 [some (.ref 116), some (.ref 121), some (.int (nI i)), some (.int (nI s)), some (.int (nI (zf_r2 (zX_mo X) (zf_mn s (fun e => nI (zT_pa T e))) (fun e => nI (zT_ne T e)) (fun e => nI (zX_we X e))))), some (.int 3), none] [] zS0 (Dm.1, Dm.2) := by
    have mle := hX.2.2.2.2.2.2
    refine hst.trans ?_
    rw [hmo]
    unfold zf_r2
    by_cases m0 : zX_mo X = 0
    · rw [if_pos ((zi_0 (by omega)).mpr m0), if_pos m0, ev_neighbours_121 (dp := dp + 1) (Dm := (Dm.1, Dm.2)) a16]
      simp only [Option.bind_some]
      rw [zf_nb_congr (n2 := fun e => nI (zT_ne T e)) (k2 := fun e => nI (zX_we X e)) (fun e he hb => (hex e he (asub e he hb)).2.1) (fun e he hb => (hex e he (asub e he hb)).2.2.2)]
    · rw [if_neg (fun z => m0 ((zi_0 (by omega)).mp z)), if_neg m0]
      by_cases m1 : zX_mo X = 1
      · rw [if_pos m1, ev_leave_121 (dp := dp + 1) (Dm := (Dm.1, Dm.2)) (ky := fun e => nI (zX_we X e)) a16 (fun e he hb => (ev_weigh2_121 (dp := dp) (Dm.1, Dm.2) (nI i) he).trans (by rw [if_pos (by rw [hmo, m1]; rfl), (hex e he (asub e he hb)).2.2.2])) (fun e he hb => zi_ne9 (by have := hwe e; omega))]
        rfl
      · rw [if_neg m1, ev_leave_121 (dp := dp + 1) (Dm := (Dm.1, Dm.2)) (ky := fun _ => 0) a16 (fun e he hb => (ev_weigh2_121 (dp := dp) (Dm.1, Dm.2) (nI i) he).trans (by rw [if_neg (by rw [hmo]; exact fun z => m1 ((nI_eq (b := 1) (by omega) (by decide)).mp z))])) (fun e he hb => by decide), zf_mn_0 a16]
        rfl
  have e3 : zv_ev (dp + 3) 161 [.ref 116, .ref 121, .int (nI i), .int (nI (zf_r2 (zX_mo X) (zf_mn s (fun e => nI (zT_pa T e))) (fun e => nI (zT_ne T e)) (fun e => nI (zX_we X e)))), .int 3] zS0 (Dm.1, Dm.2) = zo_i (nI (zf_ow (zf_r2 (zX_mo X) (zf_mn s (fun e => nI (zT_pa T e))) (fun e => nI (zT_ne T e)) (fun e => nI (zX_we X e))) (za_ho T i))) (Dm.1, Dm.2) := by
    refine (ev_leave_121 (dp := dp + 1) (Dm := (Dm.1, Dm.2)) (ky := fun e => if (za_ho T i).testBit e = true then 0 else 1) b16 (fun e he hb => (ev_weigh3_121 (dp := dp) (Dm.1, Dm.2) (nI i) he).trans ?_) (fun e he hb => ?_)).trans ?_
    · by_cases hp : zT_pl T e = i
      · rw [if_pos ((hsm e he (bsub e he hb)).2.2.mpr hp), if_pos ((hhb e he (bsub e he hb)).mpr hp)]
      · rw [if_neg (fun z => hp ((hsm e he (bsub e he hb)).2.2.mp z)), if_neg (fun z => hp ((hhb e he (bsub e he hb)).mp z))]
    · split <;> decide
    · rw [zf_mn_ow b16 (za_ho_lt T i)]
  have e4 : zv_ev (dp + 3) 161 [.ref 116, .ref 121, .int (nI i), .int (nI (zf_ow (zf_r2 (zX_mo X) (zf_mn s (fun e => nI (zT_pa T e))) (fun e => nI (zT_ne T e)) (fun e => nI (zX_we X e))) (za_ho T i))), .int 4] zS0 (Dm.1, Dm.2) = zo_i (nI (zf_mn (zf_ow (zf_r2 (zX_mo X) (zf_mn s (fun e => nI (zT_pa T e))) (fun e => nI (zT_ne T e)) (fun e => nI (zX_we X e))) (za_ho T i)) (fun e => nI (za_di (zX_co X) i (zT_pl T e))))) (Dm.1, Dm.2) := by
    refine ev_leave_121 (dp := dp + 1) (Dm := (Dm.1, Dm.2)) c16 (fun e he hb => ?_) (fun e he hb => ?_)
    · have hx := hsm e he (csub e he hb)
      refine (ev_weigh4_121 (dp := dp) (Dm.1, Dm.2) (by omega) he (hex e he (csub e he hb)).1 (hT.2.2.2.2.2.2.1 e)).trans ?_
      have := hK i (zT_pl T e) hi (hT.2.2.2.2.2.2.2.1 e hx.1)
      rw [if_pos hx.2.1] at this
      dsimp only
      rw [this]
    · have hx := hsm e he (csub e he hb)
      exact zi_ne9 (by omega)
  have d16 := zf_mn_lt (zf_ow (zf_r2 (zX_mo X) (zf_mn s (fun e => nI (zT_pa T e))) (fun e => nI (zT_ne T e)) (fun e => nI (zX_we X e))) (za_ho T i)) (fun e => nI (za_di (zX_co X) i (zT_pl T e)))
  have e5 : ∀ t, t < 16 → zv_ev (dp + 3) 161 [.ref 116, .ref 121, .int (nI i), .int (nI t), .int 5] zS0 (Dm.1, Dm.2) = zo_i (nI (zf_mn t (fun e => nI e))) (Dm.1, Dm.2) := fun t ht => ev_leave_121 (dp := dp + 1) (Dm := (Dm.1, Dm.2)) ht (fun e he hb => ev_weigh5_121 (dp := dp) (Dm.1, Dm.2) (nI i) (nI e)) (fun e he hb => zi_ne9 (by omega))
  have e72 : ∀ t (u0 u1 u2 u3 : Option Value), t < 16 → zv_m zt_X9_best (zv_ev (dp + 3)) false 72 [u0, u1, u2, u3, some (.int (nI t)), some (.int (-9)), some (.int 0)] [] zS0 (Dm.1, Dm.2) = zv_ri (zf_hi t) zS0 (Dm.1, Dm.2) := by
    intro t u0 u1 u2 u3 ht
    have st : ∀ k (x : Int32), k < 4 → zv_m zt_X9_best (zv_ev (dp + 3)) false 72 [u0, u1, u2, u3, some (.int (nI t)), some (.int x), some (.int (nI k))] [] zS0 (Dm.1, Dm.2) = zv_m zt_X9_best (zv_ev (dp + 3)) false 72 [u0, u1, u2, u3, some (.int (nI t)), some (.int (if t.testBit k = true then nI k else x)), some (.int (nI (k + 1)))] [] zS0 (Dm.1, Dm.2) := by
      intro k x hk
      rw [zd_X9_best_p121_72, if_neg (zi_ge 4 4 rfl hk (by decide)), zi_has (dp := dp + 2) (Dm.1, Dm.2) (by omega) (by omega), nI_1]
      simp only [Option.bind_some]
      by_cases hb : t.testBit k = true
      · rw [if_pos hb, if_pos hb, if_neg (by decide)]
      · rw [if_neg hb, if_neg hb, if_pos rfl]
    refine (st 0 (-9) (by decide)).trans ?_
    rw [st 1 _ (by decide), st 2 _ (by decide), st 3 _ (by decide), zd_X9_best_p121_72, if_pos (zi_le 4 4 rfl (by decide) (by decide))]
    unfold zf_hi
    rfl
  refine zs_X9_best_p121 (e40.trans ?_)
  rw [zd_X9_best_p121_40, if_neg (by decide), e3]
  simp only [Option.bind_some]
  rw [show (3 : Int32) + 1 = 4 from rfl, zd_X9_best_p121_40, if_neg (by decide), e4]
  simp only [Option.bind_some]
  rw [show (4 : Int32) + 1 = 5 from rfl, zd_X9_best_p121_40, if_neg (by decide), e5 _ d16]
  simp only [Option.bind_some]
  rw [show (5 : Int32) + 1 = 6 from rfl, zd_X9_best_p121_40, if_pos (by decide), e72 _ _ _ _ _ (zf_mn_lt _ _), zf_hi_lo d16]
  rfl
