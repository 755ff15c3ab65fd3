/-! ===== the memory of the other side ===== -/
def zm_v (c v : Nat) : Int32 := if c = 0 then -9 else nI v
def zM_R (r : Nat → Int32) (T : zT) (X : zX) (A : zA) : Prop := r 0 = nI (zT_n T) ∧ r 1 = nI (zT_m T) ∧ r 2 = nI (zX_up X) ∧ r 3 = nI (zX_ex X) ∧ r 4 = nI (zX_mo X) ∧ (∀ k, k < 25 → r (5 + k) = nI (zX_co X k)) ∧ (∀ k, k < 25 → r (30 + k) = nI (zT_se T k)) ∧ (∀ e, e < zT_m T → r (55 + 4 * e + 0) = nI (zT_pl T e) ∧ r (55 + 4 * e + 1) = nI (zT_ne T e) ∧ r (55 + 4 * e + 2) = nI (zT_pa T e) ∧ r (55 + 4 * e + 3) = nI (zX_we X e)) ∧ (∀ j k, j < 5 → k < 2 → r (71 + 6 * j + 3 * k) = zm_v (A j k) (zc_e (A j k)) ∧ r (71 + 6 * j + 3 * k + 1) = zm_v (A j k) (zc_f (A j k)) ∧ r (71 + 6 * j + 3 * k + 2) = zm_v (A j k) (zc_m (A j k)))
def zM_K (g : Nat → Nat → Int32) (T : zT) (X : zX) : Prop := ∀ i j, i < zT_n T → j < zT_n T → g 128 (5 * i + j) = if za_di (zX_co X) i j < 1000 then nI (za_di (zX_co X) i j) else -9
theorem zx_le_eq {a b : Int32} (h1 : ¬ a < b) (h2 : ¬ b < a) : a = b := Int32.le_antisymm (Int32.not_lt.mp h2) (Int32.not_lt.mp h1)
/-- the least key of those before -/
def zf_L (s : Nat) (ky : Nat → Int32) (k : Nat) (x : Int32) : Prop := (x = -9 ∧ ∀ e, e < k → s.testBit e = false) ∨ (x ≠ -9 ∧ ∃ e, e < k ∧ s.testBit e = true ∧ x = ky e ∧ ∀ f, f < k → s.testBit f = true → ¬ ky f < x)
theorem zf_L_end {s : Nat} {ky : Nat → Int32} {x : Int32} (h : zf_L s ky 4 x) : zf_mn s ky = zf_set fun e => s.testBit e && decide (ky e = x) := by
  refine zs_ext (zf_mn_lt _ _) (zf_set_lt _) fun e he => ?_
  rw [Bool.eq_iff_iff, zf_mn_tb he, zf_set_tb]
  simp only [he, decide_true, Bool.true_and, Bool.and_eq_true, decide_eq_true_eq]
  unfold zf_mk
  rcases h with ⟨-, h⟩ | ⟨-, f, hf, hs, hx, hm⟩
  · constructor
    · rintro ⟨-, q, -⟩; rw [h e he] at q; cases q
    · rintro ⟨q, -⟩; rw [h e he] at q; cases q
  · constructor
    · rintro ⟨-, q2, q3⟩
      exact ⟨q2, zx_le_eq (hm e he q2) (hx ▸ q3 f hf hs)⟩
    · rintro ⟨q2, q3⟩
      exact ⟨he, q2, fun f' hf' hs' => q3 ▸ hm f' hf' hs'⟩
theorem zf_pre_s {p : Nat → Bool} {k : Nat} (hk : k < 4) : (zf_set fun e => decide (e < k + 1) && p e) = (zf_set fun e => decide (e < k) && p e) ||| (if p k = true then 2 ^ k else 0) := by
  have h2 := z2k hk
  refine zs_ext (zf_set_lt _) (Nat.or_lt_two_pow (n := 4) (zf_set_lt _) (by split <;> omega)) fun e he => ?_
  rw [Nat.testBit_or, zf_set_tb, zf_set_tb]
  by_cases hek : e = k
  · subst hek
    by_cases hv : p e = true
    · rw [if_pos hv, Nat.testBit_two_pow_self]; simp [hv, he]
    · rw [if_neg hv, Nat.zero_testBit]; simp [hv]
  · have h1 : decide (e < k + 1) = decide (e < k) := by
      rw [decide_eq_decide]; omega
    rw [h1]
    split
    · rw [Nat.testBit_two_pow_of_ne (fun q => hek q.symm), Bool.or_false]
    · rw [Nat.zero_testBit, Bool.or_false]
theorem zf_pre_4 {p : Nat → Bool} : (zf_set fun e => decide (e < 4) && p e) = zf_set p := by
  unfold zf_set; simp
theorem zf_pre_0 {p : Nat → Bool} : (zf_set fun e => decide (e < 0) && p e) = 0 := by
  unfold zf_set; simp
theorem zi_has {dp : Nat} (Dm : zv_D) {a k : Nat} (ha : a < 2 ^ 31) (hk : k < 32) : zv_ev (dp + 1) 130 [.int (nI a), .int (nI k)] zS0 Dm = zo_i (if a.testBit k = true then 1 else 0) Dm := by
  rw [ev_has, zi_bt ha hk]
  cases a.testBit k <;> rfl
theorem ev_leave_119 {dp : Nat} {Dm : zv_D} {i : Int32} {ru : Int32} {s : Nat} {ky : Nat → Int32} (hs : s < 16) (hw : ∀ e, e < 4 → s.testBit e = true → zv_ev (dp + 1) 160 [.ref 116, .ref 119, .int i, .int (nI e), .int ru] zS0 Dm = zo_i (ky e) Dm) (h9 : ∀ e, e < 4 → s.testBit e = true → ky e ≠ -9) :
    zv_ev (dp + 2) 161 [.ref 116, .ref 119, .int i, .int (nI s), .int ru] zS0 Dm = zo_i (nI (zf_mn s ky)) Dm := by
  obtain ⟨x1, hL, r1⟩ := zl_up (fun k (x : Int32) => zv_m zt_X9_leave (zv_ev (dp + 1)) false 7 [some (.ref 116), some (.ref 119), some (.int i), some (.int (nI s)), some (.int ru), some (.int x), some (.int (nI k)), none] [] zS0 (Dm.1, Dm.2)) 4 (fun k x => zf_L s ky k x) (by
    intro k x hk hL
    have hst := zd_X9_leave_p119_7 (zv_ev (dp + 1)) Dm.1 Dm.2 i (nI s) ru x (nI k) none
    rw [if_neg (zi_ge 4 4 rfl hk (by decide)), zi_has (dp := dp) (Dm.1, Dm.2) (by omega) (by omega), nI_1] at hst
    simp only [Option.bind_some] at hst
    by_cases hb : s.testBit k = true
    · rw [if_pos hb, if_neg (by decide), hw k hk hb] at hst
      simp only [Option.bind_some] at hst
      rcases hL with ⟨hx, hn⟩ | ⟨hx, e, he, hse, hxe, hmin⟩
      · rw [if_pos hx] at hst
        refine ⟨ky k, Or.inr ⟨h9 k hk hb, k, by omega, hb, rfl, fun f hf hsf => ?_⟩, hst⟩
        by_cases hfk : f = k
        · subst hfk; exact Int32.lt_irrefl
        · rw [hn f (by omega)] at hsf; cases hsf
      · rw [if_neg hx] at hst
        by_cases hle : x ≤ ky k
        · rw [if_pos hle] at hst
          refine ⟨x, Or.inr ⟨hx, e, by omega, hse, hxe, fun f hf hsf => ?_⟩, hst⟩
          by_cases hfk : f = k
          · subst hfk; exact Int32.not_lt.mpr hle
          · exact hmin f (by omega) hsf
        · rw [if_neg hle, hw k hk hb] at hst
          simp only [Option.bind_some] at hst
          refine ⟨ky k, Or.inr ⟨h9 k hk hb, k, by omega, hb, rfl, fun f hf hsf => ?_⟩, hst⟩
          by_cases hfk : f = k
          · subst hfk; exact Int32.lt_irrefl
          · exact fun q => hmin f (by omega) hsf (Int32.lt_trans q (Int32.not_le.mp hle))
    · rw [if_neg hb, if_pos rfl] at hst
      refine ⟨x, ?_, hst⟩
      have hb' : s.testBit k = false := by simpa using hb
      rcases hL with ⟨hx, hn⟩ | ⟨hx, e, he, hse, hxe, hmin⟩
      · refine Or.inl ⟨hx, fun e he => ?_⟩
        by_cases hek : e = k
        · rw [hek]; exact hb'
        · exact hn e (by omega)
      · refine Or.inr ⟨hx, e, by omega, hse, hxe, fun f hf hsf => ?_⟩
        by_cases hfk : f = k
        · rw [hfk, hb'] at hsf; cases hsf
        · exact hmin f (by omega) hsf) (-9) (Or.inl ⟨rfl, fun e he => absurd he (Nat.not_lt_zero e)⟩)
  have st : ∀ k, k < 4 → zv_m zt_X9_leave (zv_ev (dp + 1)) false 68 [some (.ref 116), some (.ref 119), some (.int i), some (.int (nI s)), some (.int ru), some (.int x1), some (.int (nI (zf_set fun e => decide (e < k) && (s.testBit e && decide (ky e = x1))))), some (.int (nI k))] [] zS0 (Dm.1, Dm.2) = zv_m zt_X9_leave (zv_ev (dp + 1)) false 68 [some (.ref 116), some (.ref 119), some (.int i), some (.int (nI s)), some (.int ru), some (.int x1), some (.int (nI (zf_set fun e => decide (e < k + 1) && (s.testBit e && decide (ky e = x1))))), some (.int (nI (k + 1)))] [] zS0 (Dm.1, Dm.2) := by
    intro k hk
    have hst := zd_X9_leave_p119_68 (zv_ev (dp + 1)) Dm.1 Dm.2 i (nI s) ru x1 (nI (zf_set fun e => decide (e < k) && (s.testBit e && decide (ky e = x1)))) (nI k)
    rw [if_neg (zi_ge 4 4 rfl hk (by decide)), zi_has (dp := dp) (Dm.1, Dm.2) (by omega) (by omega), nI_1, zi_sh (by omega)] at hst
    simp only [Option.bind_some] at hst
    refine hst.trans ?_
    have l1 := zf_set_lt (fun e => decide (e < k) && (s.testBit e && decide (ky e = x1)))
    have l2 := z2k hk
    rw [zf_pre_s (p := fun e => s.testBit e && decide (ky e = x1)) hk]
    by_cases hb : s.testBit k = true
    · rw [if_pos hb, if_neg (by decide), hw k hk hb]
      simp only [Option.bind_some]
      by_cases hx : ky k = x1
      · rw [if_pos hx, if_pos (by simp [hb, hx]), zi_or (by omega) (by omega)]
      · rw [if_neg hx, if_neg (by simp [hx]), Int32.or_zero, Nat.or_zero]
    · rw [if_neg hb, if_pos rfl, if_neg (by simp [hb]), Int32.or_zero, Nat.or_zero]
  refine zs_X9_leave_p119 ((zd_X9_leave_p119 _ Dm.1 Dm.2 i (nI s) ru).trans (r1.trans ?_))
  rw [zd_X9_leave_p119_7, if_pos (zi_le 4 4 rfl (by decide) (by decide))]
  have s0 := st 0 (by decide)
  rw [zf_pre_0 (p := fun e => s.testBit e && decide (ky e = x1))] at s0
  refine s0.trans ?_
  rw [st 1 (by decide), st 2 (by decide), st 3 (by decide), zd_X9_leave_p119_68, if_pos (zi_le 4 4 rfl (by decide) (by decide)), zf_pre_4 (p := fun e => s.testBit e && decide (ky e = x1)), zf_L_end hL]
theorem ev_leave_120 {dp : Nat} {Dm : zv_D} {i : Int32} {ru : Int32} {s : Nat} {ky : Nat → Int32} (hs : s < 16) (hw : ∀ e, e < 4 → s.testBit e = true → zv_ev (dp + 1) 160 [.ref 116, .ref 120, .int i, .int (nI e), .int ru] zS0 Dm = zo_i (ky e) Dm) (h9 : ∀ e, e < 4 → s.testBit e = true → ky e ≠ -9) :
    zv_ev (dp + 2) 161 [.ref 116, .ref 120, .int i, .int (nI s), .int ru] zS0 Dm = zo_i (nI (zf_mn s ky)) Dm := by
  obtain ⟨x1, hL, r1⟩ := zl_up (fun k (x : Int32) => zv_m zt_X9_leave (zv_ev (dp + 1)) false 7 [some (.ref 116), some (.ref 120), some (.int i), some (.int (nI s)), some (.int ru), some (.int x), some (.int (nI k)), none] [] zS0 (Dm.1, Dm.2)) 4 (fun k x => zf_L s ky k x) (by
    intro k x hk hL
    have hst := zd_X9_leave_p120_7 (zv_ev (dp + 1)) Dm.1 Dm.2 i (nI s) ru x (nI k) none
    rw [if_neg (zi_ge 4 4 rfl hk (by decide)), zi_has (dp := dp) (Dm.1, Dm.2) (by omega) (by omega), nI_1] at hst
    simp only [Option.bind_some] at hst
    by_cases hb : s.testBit k = true
    · rw [if_pos hb, if_neg (by decide), hw k hk hb] at hst
      simp only [Option.bind_some] at hst
      rcases hL with ⟨hx, hn⟩ | ⟨hx, e, he, hse, hxe, hmin⟩
      · rw [if_pos hx] at hst
        refine ⟨ky k, Or.inr ⟨h9 k hk hb, k, by omega, hb, rfl, fun f hf hsf => ?_⟩, hst⟩
        by_cases hfk : f = k
        · subst hfk; exact Int32.lt_irrefl
        · rw [hn f (by omega)] at hsf; cases hsf
      · rw [if_neg hx] at hst
        by_cases hle : x ≤ ky k
        · rw [if_pos hle] at hst
          refine ⟨x, Or.inr ⟨hx, e, by omega, hse, hxe, fun f hf hsf => ?_⟩, hst⟩
          by_cases hfk : f = k
          · subst hfk; exact Int32.not_lt.mpr hle
          · exact hmin f (by omega) hsf
        · rw [if_neg hle, hw k hk hb] at hst
          simp only [Option.bind_some] at hst
          refine ⟨ky k, Or.inr ⟨h9 k hk hb, k, by omega, hb, rfl, fun f hf hsf => ?_⟩, hst⟩
          by_cases hfk : f = k
          · subst hfk; exact Int32.lt_irrefl
          · exact fun q => hmin f (by omega) hsf (Int32.lt_trans q (Int32.not_le.mp hle))
    · rw [if_neg hb, if_pos rfl] at hst
      refine ⟨x, ?_, hst⟩
      have hb' : s.testBit k = false := by simpa using hb
      rcases hL with ⟨hx, hn⟩ | ⟨hx, e, he, hse, hxe, hmin⟩
      · refine Or.inl ⟨hx, fun e he => ?_⟩
        by_cases hek : e = k
        · rw [hek]; exact hb'
        · exact hn e (by omega)
      · refine Or.inr ⟨hx, e, by omega, hse, hxe, fun f hf hsf => ?_⟩
        by_cases hfk : f = k
        · rw [hfk, hb'] at hsf; cases hsf
        · exact hmin f (by omega) hsf) (-9) (Or.inl ⟨rfl, fun e he => absurd he (Nat.not_lt_zero e)⟩)
  have st : ∀ k, k < 4 → zv_m zt_X9_leave (zv_ev (dp + 1)) false 68 [some (.ref 116), some (.ref 120), some (.int i), some (.int (nI s)), some (.int ru), some (.int x1), some (.int (nI (zf_set fun e => decide (e < k) && (s.testBit e && decide (ky e = x1))))), some (.int (nI k))] [] zS0 (Dm.1, Dm.2) = zv_m zt_X9_leave (zv_ev (dp + 1)) false 68 [some (.ref 116), some (.ref 120), some (.int i), some (.int (nI s)), some (.int ru), some (.int x1), some (.int (nI (zf_set fun e => decide (e < k + 1) && (s.testBit e && decide (ky e = x1))))), some (.int (nI (k + 1)))] [] zS0 (Dm.1, Dm.2) := by
    intro k hk
    have hst := zd_X9_leave_p120_68 (zv_ev (dp + 1)) Dm.1 Dm.2 i (nI s) ru x1 (nI (zf_set fun e => decide (e < k) && (s.testBit e && decide (ky e = x1)))) (nI k)
    rw [if_neg (zi_ge 4 4 rfl hk (by decide)), zi_has (dp := dp) (Dm.1, Dm.2) (by omega) (by omega), nI_1, zi_sh (by omega)] at hst
    simp only [Option.bind_some] at hst
    refine hst.trans ?_
    have l1 := zf_set_lt (fun e => decide (e < k) && (s.testBit e && decide (ky e = x1)))
    have l2 := z2k hk
    rw [zf_pre_s (p := fun e => s.testBit e && decide (ky e = x1)) hk]
    by_cases hb : s.testBit k = true
    · rw [if_pos hb, if_neg (by decide), hw k hk hb]
      simp only [Option.bind_some]
      by_cases hx : ky k = x1
      · rw [if_pos hx, if_pos (by simp [hb, hx]), zi_or (by omega) (by omega)]
      · rw [if_neg hx, if_neg (by simp [hx]), Int32.or_zero, Nat.or_zero]
    · rw [if_neg hb, if_pos rfl, if_neg (by simp [hb]), Int32.or_zero, Nat.or_zero]
  refine zs_X9_leave_p120 ((zd_X9_leave_p120 _ Dm.1 Dm.2 i (nI s) ru).trans (r1.trans ?_))
  rw [zd_X9_leave_p120_7, if_pos (zi_le 4 4 rfl (by decide) (by decide))]
  have s0 := st 0 (by decide)
  rw [zf_pre_0 (p := fun e => s.testBit e && decide (ky e = x1))] at s0
  refine s0.trans ?_
  rw [st 1 (by decide), st 2 (by decide), st 3 (by decide), zd_X9_leave_p120_68, if_pos (zi_le 4 4 rfl (by decide) (by decide)), zf_pre_4 (p := fun e => s.testBit e && decide (ky e = x1)), zf_L_end hL]
theorem ev_leave_121 {dp : Nat} {Dm : zv_D} {i : Int32} {ru : Int32} {s : Nat} {ky : Nat → Int32} (hs : s < 16) (hw : ∀ e, e < 4 → s.testBit e = true → zv_ev (dp + 1) 160 [.ref 116, .ref 121, .int i, .int (nI e), .int ru] zS0 Dm = zo_i (ky e) Dm) (h9 : ∀ e, e < 4 → s.testBit e = true → ky e ≠ -9) :
    zv_ev (dp + 2) 161 [.ref 116, .ref 121, .int i, .int (nI s), .int ru] zS0 Dm = zo_i (nI (zf_mn s ky)) Dm := by
  obtain ⟨x1, hL, r1⟩ := zl_up (fun k (x : Int32) => zv_m zt_X9_leave (zv_ev (dp + 1)) false 7 [some (.ref 116), some (.ref 121), some (.int i), some (.int (nI s)), some (.int ru), some (.int x), some (.int (nI k)), none] [] zS0 (Dm.1, Dm.2)) 4 (fun k x => zf_L s ky k x) (by
    intro k x hk hL
    have hst := zd_X9_leave_p121_7 (zv_ev (dp + 1)) Dm.1 Dm.2 i (nI s) ru x (nI k) none
    rw [if_neg (zi_ge 4 4 rfl hk (by decide)), zi_has (dp := dp) (Dm.1, Dm.2) (by omega) (by omega), nI_1] at hst
    simp only [Option.bind_some] at hst
    by_cases hb : s.testBit k = true
    · rw [if_pos hb, if_neg (by decide), hw k hk hb] at hst
      simp only [Option.bind_some] at hst
      rcases hL with ⟨hx, hn⟩ | ⟨hx, e, he, hse, hxe, hmin⟩
      · rw [if_pos hx] at hst
        refine ⟨ky k, Or.inr ⟨h9 k hk hb, k, by omega, hb, rfl, fun f hf hsf => ?_⟩, hst⟩
        by_cases hfk : f = k
        · subst hfk; exact Int32.lt_irrefl
        · rw [hn f (by omega)] at hsf; cases hsf
      · rw [if_neg hx] at hst
        by_cases hle : x ≤ ky k
        · rw [if_pos hle] at hst
          refine ⟨x, Or.inr ⟨hx, e, by omega, hse, hxe, fun f hf hsf => ?_⟩, hst⟩
          by_cases hfk : f = k
          · subst hfk; exact Int32.not_lt.mpr hle
          · exact hmin f (by omega) hsf
        · rw [if_neg hle, hw k hk hb] at hst
          simp only [Option.bind_some] at hst
          refine ⟨ky k, Or.inr ⟨h9 k hk hb, k, by omega, hb, rfl, fun f hf hsf => ?_⟩, hst⟩
          by_cases hfk : f = k
          · subst hfk; exact Int32.lt_irrefl
          · exact fun q => hmin f (by omega) hsf (Int32.lt_trans q (Int32.not_le.mp hle))
    · rw [if_neg hb, if_pos rfl] at hst
      refine ⟨x, ?_, hst⟩
      have hb' : s.testBit k = false := by simpa using hb
      rcases hL with ⟨hx, hn⟩ | ⟨hx, e, he, hse, hxe, hmin⟩
      · refine Or.inl ⟨hx, fun e he => ?_⟩
        by_cases hek : e = k
        · rw [hek]; exact hb'
        · exact hn e (by omega)
      · refine Or.inr ⟨hx, e, by omega, hse, hxe, fun f hf hsf => ?_⟩
        by_cases hfk : f = k
        · rw [hfk, hb'] at hsf; cases hsf
        · exact hmin f (by omega) hsf) (-9) (Or.inl ⟨rfl, fun e he => absurd he (Nat.not_lt_zero e)⟩)
  have st : ∀ k, k < 4 → zv_m zt_X9_leave (zv_ev (dp + 1)) false 68 [some (.ref 116), some (.ref 121), some (.int i), some (.int (nI s)), some (.int ru), some (.int x1), some (.int (nI (zf_set fun e => decide (e < k) && (s.testBit e && decide (ky e = x1))))), some (.int (nI k))] [] zS0 (Dm.1, Dm.2) = zv_m zt_X9_leave (zv_ev (dp + 1)) false 68 [some (.ref 116), some (.ref 121), some (.int i), some (.int (nI s)), some (.int ru), some (.int x1), some (.int (nI (zf_set fun e => decide (e < k + 1) && (s.testBit e && decide (ky e = x1))))), some (.int (nI (k + 1)))] [] zS0 (Dm.1, Dm.2) := by
    intro k hk
    have hst := zd_X9_leave_p121_68 (zv_ev (dp + 1)) Dm.1 Dm.2 i (nI s) ru x1 (nI (zf_set fun e => decide (e < k) && (s.testBit e && decide (ky e = x1)))) (nI k)
    rw [if_neg (zi_ge 4 4 rfl hk (by decide)), zi_has (dp := dp) (Dm.1, Dm.2) (by omega) (by omega), nI_1, zi_sh (by omega)] at hst
    simp only [Option.bind_some] at hst
    refine hst.trans ?_
    have l1 := zf_set_lt (fun e => decide (e < k) && (s.testBit e && decide (ky e = x1)))
    have l2 := z2k hk
    rw [zf_pre_s (p := fun e => s.testBit e && decide (ky e = x1)) hk]
    by_cases hb : s.testBit k = true
    · rw [if_pos hb, if_neg (by decide), hw k hk hb]
      simp only [Option.bind_some]
      by_cases hx : ky k = x1
      · rw [if_pos hx, if_pos (by simp [hb, hx]), zi_or (by omega) (by omega)]
      · rw [if_neg hx, if_neg (by simp [hx]), Int32.or_zero, Nat.or_zero]
    · rw [if_neg hb, if_pos rfl, if_neg (by simp [hb]), Int32.or_zero, Nat.or_zero]
  refine zs_X9_leave_p121 ((zd_X9_leave_p121 _ Dm.1 Dm.2 i (nI s) ru).trans (r1.trans ?_))
  rw [zd_X9_leave_p121_7, if_pos (zi_le 4 4 rfl (by decide) (by decide))]
  have s0 := st 0 (by decide)
  rw [zf_pre_0 (p := fun e => s.testBit e && decide (ky e = x1))] at s0
  refine s0.trans ?_
  rw [st 1 (by decide), st 2 (by decide), st 3 (by decide), zd_X9_leave_p121_68, if_pos (zi_le 4 4 rfl (by decide) (by decide)), zf_pre_4 (p := fun e => s.testBit e && decide (ky e = x1)), zf_L_end hL]
