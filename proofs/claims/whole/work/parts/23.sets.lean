/-! ===== sets of exits: those with the least key ===== -/
theorem zi_tb {s k : Nat} (hs : s < 32) (hk : k < 5) : (((nI s >>> (nI k &&& 31)) &&& 1) = 1) = (s.testBit k = true) := by
  have key : ∀ s, s < 32 → ∀ k, k < 5 → decide (((nI s >>> (nI k &&& 31)) &&& 1) = 1) = s.testBit k := by decide +kernel
  have := key s hs k hk
  rw [← this, decide_eq_true_eq]
def zf_set (p : Nat → Bool) : Nat := (bif p 0 then 1 else 0) ||| (bif p 1 then 2 else 0) ||| (bif p 2 then 4 else 0) ||| (bif p 3 then 8 else 0)
theorem zf_set_lt (p : Nat → Bool) : zf_set p < 16 := by
  unfold zf_set
  cases p 0 <;> cases p 1 <;> cases p 2 <;> cases p 3 <;> decide
theorem zf_set_tb (p : Nat → Bool) (e : Nat) : (zf_set p).testBit e = (decide (e < 4) && p e) := by
  by_cases he : e < 4
  · match e, he with
    | 0, _ => unfold zf_set; cases p 0 <;> cases p 1 <;> cases p 2 <;> cases p 3 <;> decide
    | 1, _ => unfold zf_set; cases p 0 <;> cases p 1 <;> cases p 2 <;> cases p 3 <;> decide
    | 2, _ => unfold zf_set; cases p 0 <;> cases p 1 <;> cases p 2 <;> cases p 3 <;> decide
    | 3, _ => unfold zf_set; cases p 0 <;> cases p 1 <;> cases p 2 <;> cases p 3 <;> decide
    | k + 4, h => exact absurd h (by omega)
  · have h1 : zf_set p < 2 ^ e := Nat.lt_of_lt_of_le (zf_set_lt p) (by
      calc 16 = 2 ^ 4 := rfl
        _ ≤ 2 ^ e := Nat.pow_le_pow_right (by decide) (by omega))
    rw [Nat.testBit_lt_two_pow h1]
    simp [he]
theorem zs_ext {a b : Nat} (ha : a < 16) (hb : b < 16) (h : ∀ e, e < 4 → a.testBit e = b.testBit e) : a = b := by
  apply Nat.eq_of_testBit_eq
  intro e
  by_cases he : e < 4
  · exact h e he
  · have hp : 16 ≤ 2 ^ e := by
      calc 16 = 2 ^ 4 := rfl
        _ ≤ 2 ^ e := Nat.pow_le_pow_right (by decide) (by omega)
    rw [Nat.testBit_lt_two_pow (Nat.lt_of_lt_of_le ha hp), Nat.testBit_lt_two_pow (Nat.lt_of_lt_of_le hb hp)]
/-- those of s (below k) with the least key -/
def zf_mk (k s : Nat) (ky : Nat → Int32) (e : Nat) : Prop := e < k ∧ s.testBit e = true ∧ ∀ f, f < k → s.testBit f = true → ¬ ky f < ky e
def zf_mem (s : Nat) (ky : Nat → Int32) (e : Nat) : Bool := s.testBit e && (List.range 4).all fun f => !(s.testBit f) || !(decide (ky f < ky e))
theorem zf_mem_iff {s : Nat} {ky : Nat → Int32} {e : Nat} (he : e < 4) : zf_mem s ky e = true ↔ zf_mk 4 s ky e := by
  unfold zf_mem zf_mk
  simp only [Bool.and_eq_true, List.all_eq_true, List.mem_range, Bool.or_eq_true, Bool.not_eq_true', decide_eq_false_iff_not]
  constructor
  · rintro ⟨h1, h2⟩
    exact ⟨he, h1, fun f hf hs => (h2 f hf).resolve_left (by rw [hs]; decide)⟩
  · rintro ⟨_, h1, h2⟩
    refine ⟨h1, fun f hf => ?_⟩
    cases hs : s.testBit f with
    | false => exact Or.inl rfl
    | true => exact Or.inr (h2 f hf hs)
def zf_mn (s : Nat) (ky : Nat → Int32) : Nat := zf_set (zf_mem s ky)
theorem zf_mn_lt (s : Nat) (ky : Nat → Int32) : zf_mn s ky < 16 := zf_set_lt _
theorem zf_mn_tb {s : Nat} {ky : Nat → Int32} {e : Nat} (he : e < 4) : (zf_mn s ky).testBit e = true ↔ zf_mk 4 s ky e := by
  unfold zf_mn
  rw [zf_set_tb, ← zf_mem_iff he]
  simp [he]
/-- the state of the search for the least: below k -/
def zf_J (s : Nat) (ky : Nat → Int32) (k l : Nat) (x : Int32) : Prop := l < 16 ∧ (∀ e, e < 4 → (l.testBit e = true ↔ zf_mk k s ky e)) ∧ (l = 0 → ∀ e, e < k → s.testBit e = false) ∧ (l ≠ 0 → ∃ e, e < k ∧ s.testBit e = true ∧ x = ky e ∧ ∀ f, f < k → s.testBit f = true → ¬ ky f < x)
theorem zf_J0 (s : Nat) (ky : Nat → Int32) (x : Int32) : zf_J s ky 0 0 x := by
  refine ⟨by decide, fun e _ => ?_, fun _ e he => absurd he (Nat.not_lt_zero e), fun h => absurd rfl h⟩
  constructor
  · intro h; rw [Nat.zero_testBit] at h; cases h
  · rintro ⟨h, -⟩; exact absurd h (Nat.not_lt_zero e)
theorem zf_J_no {s : Nat} {ky : Nat → Int32} {k l : Nat} {x : Int32} (h : zf_J s ky k l x) (hk : s.testBit k = false) : zf_J s ky (k + 1) l x := by
  obtain ⟨h1, h2, h3, h4⟩ := h
  have hlt : ∀ f, f < k + 1 → s.testBit f = true → f < k := by
    intro f hf hs
    rcases Nat.lt_or_ge f k with q | q
    · exact q
    · have : f = k := by omega
      rw [this, hk] at hs; cases hs
  refine ⟨h1, fun e he => (h2 e he).trans ?_, fun h0 e he => ?_, fun h0 => ?_⟩
  · constructor
    · rintro ⟨q1, q2, q3⟩
      exact ⟨by omega, q2, fun f hf hs => q3 f (hlt f hf hs) hs⟩
    · rintro ⟨q1, q2, q3⟩
      exact ⟨hlt e q1 q2, q2, fun f hf hs => q3 f (by omega) hs⟩
  · rcases Nat.lt_or_ge e k with q | q
    · exact h3 h0 e q
    · have : e = k := by omega
      rw [this]; exact hk
  · obtain ⟨e, q1, q2, q3, q4⟩ := h4 h0
    exact ⟨e, by omega, q2, q3, fun f hf hs => q4 f (hlt f hf hs) hs⟩
theorem zf_J_new {s : Nat} {ky : Nat → Int32} {k l : Nat} {x : Int32} (h : zf_J s ky k l x) (hk4 : k < 4) (hk : s.testBit k = true) (hn : l = 0 ∨ ky k < x) : zf_J s ky (k + 1) (2 ^ k) (ky k) := by
  obtain ⟨h1, h2, h3, h4⟩ := h
  have hless : ∀ f, f < k → s.testBit f = true → ky k < ky f := by
    intro f hf hs
    by_cases h0 : l = 0
    · rw [h3 h0 f hf] at hs; cases hs
    · obtain ⟨e, q1, q2, q3, q4⟩ := h4 h0
      have hx : ky k < x := hn.resolve_left h0
      exact Int32.lt_of_lt_of_le hx (Int32.not_lt.mp (q4 f hf hs))
  refine ⟨by have : 2 ^ k ≤ 2 ^ 3 := Nat.pow_le_pow_right (by decide) (by omega); omega, fun e he => ?_, fun h0 => absurd h0 (Nat.ne_of_gt (Nat.two_pow_pos k)), fun _ => ⟨k, by omega, hk, rfl, fun f hf hs => ?_⟩⟩
  · rw [Nat.testBit_two_pow, decide_eq_true_eq]
    constructor
    · rintro rfl
      refine ⟨by omega, hk, fun f hf hs => ?_⟩
      rcases Nat.lt_or_ge f k with q | q
      · exact fun z => Int32.lt_irrefl (Int32.lt_trans z (hless f q hs))
      · have : f = k := by omega
        rw [this]; exact Int32.lt_irrefl
    · rintro ⟨q1, q2, q3⟩
      rcases Nat.lt_or_ge e k with q | q
      · exact absurd (hless e q q2) (q3 k (by omega) hk)
      · omega
  · rcases Nat.lt_or_ge f k with q | q
    · exact fun z => Int32.lt_irrefl (Int32.lt_trans z (hless f q hs))
    · have : f = k := by omega
      rw [this]; exact Int32.lt_irrefl
theorem zf_J_old {s : Nat} {ky : Nat → Int32} {k l : Nat} {x : Int32} (h : zf_J s ky k l x) (hk : s.testBit k = true) (h0 : l ≠ 0) (hx : x < ky k) : zf_J s ky (k + 1) l x := by
  obtain ⟨h1, h2, h3, h4⟩ := h
  obtain ⟨e0, p1, p2, p3, p4⟩ := h4 h0
  refine ⟨h1, fun e he => (h2 e he).trans ?_, fun z => absurd z h0, fun _ => ⟨e0, by omega, p2, p3, fun f hf hs => ?_⟩⟩
  · constructor
    · rintro ⟨q1, q2, q3⟩
      refine ⟨by omega, q2, fun f hf hs => ?_⟩
      rcases Nat.lt_or_ge f k with q | q
      · exact q3 f q hs
      · have : f = k := by omega
        subst this
        intro z
        have := Int32.lt_of_le_of_lt (Int32.not_lt.mp (q3 e0 p1 p2)) (by rw [← p3]; exact Int32.lt_trans hx z)
        exact Int32.lt_irrefl this
    · rintro ⟨q1, q2, q3⟩
      rcases Nat.lt_or_ge e k with q | q
      · exact ⟨q, q2, fun f hf hs => q3 f (by omega) hs⟩
      · have : e = k := by omega
        subst this
        exact absurd (by rw [← p3]; exact hx) (q3 e0 (by omega) p2)
  · rcases Nat.lt_or_ge f k with q | q
    · exact p4 f q hs
    · have : f = k := by omega
      subst this
      exact fun z => Int32.lt_irrefl (Int32.lt_trans z hx)
theorem zf_J_add {s : Nat} {ky : Nat → Int32} {k l : Nat} {x : Int32} (h : zf_J s ky k l x) (hk4 : k < 4) (hk : s.testBit k = true) (h0 : l ≠ 0) (hx : ky k = x) : zf_J s ky (k + 1) (l ||| 2 ^ k) x := by
  obtain ⟨h1, h2, h3, h4⟩ := h
  obtain ⟨e0, p1, p2, p3, p4⟩ := h4 h0
  have h2k : 2 ^ k < 16 := by
    have : 2 ^ k ≤ 2 ^ 3 := Nat.pow_le_pow_right (by decide) (by omega)
    omega
  refine ⟨Nat.or_lt_two_pow (n := 4) h1 h2k, fun e he => ?_, fun z => absurd z (fun z => ?_), fun _ => ⟨e0, by omega, p2, p3, fun f hf hs => ?_⟩⟩
  · rw [Nat.testBit_or, Bool.or_eq_true, h2 e he, Nat.testBit_two_pow, decide_eq_true_eq]
    constructor
    · rintro (⟨q1, q2, q3⟩ | rfl)
      · refine ⟨by omega, q2, fun f hf hs => ?_⟩
        rcases Nat.lt_or_ge f k with q | q
        · exact q3 f q hs
        · have : f = k := by omega
          subst this
          rw [hx, p3]
          exact q3 e0 p1 p2
      · refine ⟨by omega, hk, fun f hf hs => ?_⟩
        rcases Nat.lt_or_ge f k with q | q
        · rw [hx]; exact p4 f q hs
        · have : f = k := by omega
          rw [this]; exact Int32.lt_irrefl
    · rintro ⟨q1, q2, q3⟩
      rcases Nat.lt_or_ge e k with q | q
      · exact Or.inl ⟨q, q2, fun f hf hs => q3 f (by omega) hs⟩
      · exact Or.inr (by omega)
  · have hb : (l ||| 2 ^ k).testBit k = true := by rw [Nat.testBit_or, Nat.testBit_two_pow_self, Bool.or_true]
    rw [z, Nat.zero_testBit] at hb
    cases hb
  · rcases Nat.lt_or_ge f k with q | q
    · exact p4 f q hs
    · have : f = k := by omega
      rw [this, hx]; exact Int32.lt_irrefl
theorem zf_J_end {s : Nat} {ky : Nat → Int32} {l : Nat} {x : Int32} (h : zf_J s ky 4 l x) : l = zf_mn s ky := zs_ext h.1 (zf_mn_lt s ky) fun e he => by
  have h1 := h.2.1 e he
  have h2 := zf_mn_tb (s := s) (ky := ky) he
  rw [← h2] at h1
  cases ha : l.testBit e <;> cases hb : (zf_mn s ky).testBit e <;> simp_all
theorem zx_sm_14_1 (ca : zv_Ca) (g : Nat → Nat → Int32) (h : Nat → Nat → Int64) {s k l : Nat} {w : Int32} (hs : s < 16) (hk : k < 4) (hJ : zf_J s (g 14) k l w) :
    ∃ l' w', zf_J s (g 14) (k + 1) l' w' ∧ zv_m zt_X6_smallest ca false 7 [some (.int (nI s)), some (.ref 14), some (.int (nI l)), some (.int w), some (.int (nI k))] [] zS0 (g, h) = zv_m zt_X6_smallest ca false 7 [some (.int (nI s)), some (.ref 14), some (.int (nI l')), some (.int w'), some (.int (nI (k + 1)))] [] zS0 (g, h) := by
  rw [zd_X6_smallest_c14_7, if_neg (zi_ge 4 4 rfl hk (by decide)), if_neg (zi_ge 4 (Int32.ofNat 4) rfl hk (by decide)), zi_in hk (by decide), nI_clamp (by omega), nI_1, zi_sh (by omega)]
  simp only [zi_tb (s := s) (k := k) (by omega) (by omega), cond_true]
  have hl0 : (nI l = 0) ↔ l = 0 := by
    have := nI_eq (a := l) (b := 0) (by have := hJ.1; omega) (by decide)
    exact this
  cases hb : s.testBit k with
  | false => exact ⟨l, w, zf_J_no hJ hb, rfl⟩
  | true =>
    rw [if_pos rfl]
    by_cases h0 : l = 0
    · rw [if_pos (hl0.mpr h0), if_pos trivial]
      refine ⟨2 ^ k, g 14 k, zf_J_new hJ hk hb (Or.inl h0), ?_⟩
      rw [Int32.zero_or]
    · rw [if_neg (fun q => h0 (hl0.mp q))]
      by_cases h1 : w ≤ g 14 k
      · rw [if_pos h1]
        by_cases h2 : g 14 k = w
        · rw [if_pos h2]
          refine ⟨l ||| 2 ^ k, w, zf_J_add hJ hk hb h0 h2, ?_⟩
          rw [zi_or (by have := hJ.1; omega) (by have : 2 ^ k ≤ 2 ^ 3 := Nat.pow_le_pow_right (by decide) (by omega); omega)]
        · rw [if_neg h2]
          refine ⟨l, w, zf_J_old hJ hb h0 ((Int32.lt_or_lt_of_ne h2).resolve_left (Int32.not_lt.mpr h1)), ?_⟩
          rw [Int32.or_zero]
      · rw [if_neg h1, if_pos trivial]
        refine ⟨2 ^ k, g 14 k, zf_J_new hJ hk hb (Or.inr (Int32.not_le.mp h1)), ?_⟩
        rw [Int32.zero_or]
theorem ev_smallest_14 {dp : Nat} (Dm : zv_D) {s : Nat} (hs : s < 16) : zv_ev (dp + 1) 63 [.int (nI s), .ref 14] zS0 Dm = zo_i (nI (zf_mn s (Dm.1 14))) Dm := by
  refine zs_X6_smallest_c14 ((zd_X6_smallest_c14 _ Dm.1 Dm.2 _).trans ?_)
  obtain ⟨l1, w1, j1, e1⟩ := zx_sm_14_1 (zv_ev dp) Dm.1 Dm.2 hs (by decide : 0 < 4) (zf_J0 s (Dm.1 14) 0)
  obtain ⟨l2, w2, j2, e2⟩ := zx_sm_14_1 (zv_ev dp) Dm.1 Dm.2 hs (by decide : 1 < 4) j1
  obtain ⟨l3, w3, j3, e3⟩ := zx_sm_14_1 (zv_ev dp) Dm.1 Dm.2 hs (by decide : 2 < 4) j2
  obtain ⟨l4, w4, j4, e4⟩ := zx_sm_14_1 (zv_ev dp) Dm.1 Dm.2 hs (by decide : 3 < 4) j3
  refine e1.trans (e2.trans (e3.trans (e4.trans ?_)))
  rw [zd_X6_smallest_c14_7, if_pos (zi_le 4 4 rfl (by decide) (by decide)), zf_J_end j4]
theorem zx_sm_19_1 (ca : zv_Ca) (g : Nat → Nat → Int32) (h : Nat → Nat → Int64) {s k l : Nat} {w : Int32} (hs : s < 16) (hk : k < 4) (hJ : zf_J s (g 19) k l w) :
    ∃ l' w', zf_J s (g 19) (k + 1) l' w' ∧ zv_m zt_X6_smallest ca false 7 [some (.int (nI s)), some (.ref 19), some (.int (nI l)), some (.int w), some (.int (nI k))] [] zS0 (g, h) = zv_m zt_X6_smallest ca false 7 [some (.int (nI s)), some (.ref 19), some (.int (nI l')), some (.int w'), some (.int (nI (k + 1)))] [] zS0 (g, h) := by
  rw [zd_X6_smallest_c19_7, if_neg (zi_ge 4 4 rfl hk (by decide)), if_neg (zi_ge 4 (Int32.ofNat 4) rfl hk (by decide)), zi_in hk (by decide), nI_clamp (by omega), nI_1, zi_sh (by omega)]
  simp only [zi_tb (s := s) (k := k) (by omega) (by omega), cond_true]
  have hl0 : (nI l = 0) ↔ l = 0 := by
    have := nI_eq (a := l) (b := 0) (by have := hJ.1; omega) (by decide)
    exact this
  cases hb : s.testBit k with
  | false => exact ⟨l, w, zf_J_no hJ hb, rfl⟩
  | true =>
    rw [if_pos rfl]
    by_cases h0 : l = 0
    · rw [if_pos (hl0.mpr h0), if_pos trivial]
      refine ⟨2 ^ k, g 19 k, zf_J_new hJ hk hb (Or.inl h0), ?_⟩
      rw [Int32.zero_or]
    · rw [if_neg (fun q => h0 (hl0.mp q))]
      by_cases h1 : w ≤ g 19 k
      · rw [if_pos h1]
        by_cases h2 : g 19 k = w
        · rw [if_pos h2]
          refine ⟨l ||| 2 ^ k, w, zf_J_add hJ hk hb h0 h2, ?_⟩
          rw [zi_or (by have := hJ.1; omega) (by have : 2 ^ k ≤ 2 ^ 3 := Nat.pow_le_pow_right (by decide) (by omega); omega)]
        · rw [if_neg h2]
          refine ⟨l, w, zf_J_old hJ hb h0 ((Int32.lt_or_lt_of_ne h2).resolve_left (Int32.not_lt.mpr h1)), ?_⟩
          rw [Int32.or_zero]
      · rw [if_neg h1, if_pos trivial]
        refine ⟨2 ^ k, g 19 k, zf_J_new hJ hk hb (Or.inr (Int32.not_le.mp h1)), ?_⟩
        rw [Int32.zero_or]
theorem ev_smallest_19 {dp : Nat} (Dm : zv_D) {s : Nat} (hs : s < 16) : zv_ev (dp + 1) 63 [.int (nI s), .ref 19] zS0 Dm = zo_i (nI (zf_mn s (Dm.1 19))) Dm := by
  refine zs_X6_smallest_c19 ((zd_X6_smallest_c19 _ Dm.1 Dm.2 _).trans ?_)
  obtain ⟨l1, w1, j1, e1⟩ := zx_sm_19_1 (zv_ev dp) Dm.1 Dm.2 hs (by decide : 0 < 4) (zf_J0 s (Dm.1 19) 0)
  obtain ⟨l2, w2, j2, e2⟩ := zx_sm_19_1 (zv_ev dp) Dm.1 Dm.2 hs (by decide : 1 < 4) j1
  obtain ⟨l3, w3, j3, e3⟩ := zx_sm_19_1 (zv_ev dp) Dm.1 Dm.2 hs (by decide : 2 < 4) j2
  obtain ⟨l4, w4, j4, e4⟩ := zx_sm_19_1 (zv_ev dp) Dm.1 Dm.2 hs (by decide : 3 < 4) j3
  refine e1.trans (e2.trans (e3.trans (e4.trans ?_)))
  rw [zd_X6_smallest_c19_7, if_pos (zi_le 4 4 rfl (by decide) (by decide)), zf_J_end j4]
theorem zx_sm_30_1 (ca : zv_Ca) (g : Nat → Nat → Int32) (h : Nat → Nat → Int64) {s k l : Nat} {w : Int32} (hs : s < 16) (hk : k < 4) (hJ : zf_J s (g 30) k l w) :
    ∃ l' w', zf_J s (g 30) (k + 1) l' w' ∧ zv_m zt_X6_smallest ca false 7 [some (.int (nI s)), some (.ref 30), some (.int (nI l)), some (.int w), some (.int (nI k))] [] zS0 (g, h) = zv_m zt_X6_smallest ca false 7 [some (.int (nI s)), some (.ref 30), some (.int (nI l')), some (.int w'), some (.int (nI (k + 1)))] [] zS0 (g, h) := by
  rw [zd_X6_smallest_c30_7, if_neg (zi_ge 4 4 rfl hk (by decide)), if_neg (zi_ge 4 (Int32.ofNat 4) rfl hk (by decide)), zi_in hk (by decide), nI_clamp (by omega), nI_1, zi_sh (by omega)]
  simp only [zi_tb (s := s) (k := k) (by omega) (by omega), cond_true]
  have hl0 : (nI l = 0) ↔ l = 0 := by
    have := nI_eq (a := l) (b := 0) (by have := hJ.1; omega) (by decide)
    exact this
  cases hb : s.testBit k with
  | false => exact ⟨l, w, zf_J_no hJ hb, rfl⟩
  | true =>
    rw [if_pos rfl]
    by_cases h0 : l = 0
    · rw [if_pos (hl0.mpr h0), if_pos trivial]
      refine ⟨2 ^ k, g 30 k, zf_J_new hJ hk hb (Or.inl h0), ?_⟩
      rw [Int32.zero_or]
    · rw [if_neg (fun q => h0 (hl0.mp q))]
      by_cases h1 : w ≤ g 30 k
      · rw [if_pos h1]
        by_cases h2 : g 30 k = w
        · rw [if_pos h2]
          refine ⟨l ||| 2 ^ k, w, zf_J_add hJ hk hb h0 h2, ?_⟩
          rw [zi_or (by have := hJ.1; omega) (by have : 2 ^ k ≤ 2 ^ 3 := Nat.pow_le_pow_right (by decide) (by omega); omega)]
        · rw [if_neg h2]
          refine ⟨l, w, zf_J_old hJ hb h0 ((Int32.lt_or_lt_of_ne h2).resolve_left (Int32.not_lt.mpr h1)), ?_⟩
          rw [Int32.or_zero]
      · rw [if_neg h1, if_pos trivial]
        refine ⟨2 ^ k, g 30 k, zf_J_new hJ hk hb (Or.inr (Int32.not_le.mp h1)), ?_⟩
        rw [Int32.zero_or]
theorem ev_smallest_30 {dp : Nat} (Dm : zv_D) {s : Nat} (hs : s < 16) : zv_ev (dp + 1) 63 [.int (nI s), .ref 30] zS0 Dm = zo_i (nI (zf_mn s (Dm.1 30))) Dm := by
  refine zs_X6_smallest_c30 ((zd_X6_smallest_c30 _ Dm.1 Dm.2 _).trans ?_)
  obtain ⟨l1, w1, j1, e1⟩ := zx_sm_30_1 (zv_ev dp) Dm.1 Dm.2 hs (by decide : 0 < 4) (zf_J0 s (Dm.1 30) 0)
  obtain ⟨l2, w2, j2, e2⟩ := zx_sm_30_1 (zv_ev dp) Dm.1 Dm.2 hs (by decide : 1 < 4) j1
  obtain ⟨l3, w3, j3, e3⟩ := zx_sm_30_1 (zv_ev dp) Dm.1 Dm.2 hs (by decide : 2 < 4) j2
  obtain ⟨l4, w4, j4, e4⟩ := zx_sm_30_1 (zv_ev dp) Dm.1 Dm.2 hs (by decide : 3 < 4) j3
  refine e1.trans (e2.trans (e3.trans (e4.trans ?_)))
  rw [zd_X6_smallest_c30_7, if_pos (zi_le 4 4 rfl (by decide) (by decide)), zf_J_end j4]
theorem zx_sm_24_1 (ca : zv_Ca) (g : Nat → Nat → Int32) (h : Nat → Nat → Int64) {s k l : Nat} {w : Int32} (hs : s < 16) (hk : k < 4) (hJ : zf_J s (g 24) k l w) :
    ∃ l' w', zf_J s (g 24) (k + 1) l' w' ∧ zv_m zt_X6_smallest ca false 7 [some (.int (nI s)), some (.ref 24), some (.int (nI l)), some (.int w), some (.int (nI k))] [] zS0 (g, h) = zv_m zt_X6_smallest ca false 7 [some (.int (nI s)), some (.ref 24), some (.int (nI l')), some (.int w'), some (.int (nI (k + 1)))] [] zS0 (g, h) := by
  rw [zd_X6_smallest_c24_7, if_neg (zi_ge 4 4 rfl hk (by decide)), if_neg (zi_ge 4 (Int32.ofNat 4) rfl hk (by decide)), zi_in hk (by decide), nI_clamp (by omega), nI_1, zi_sh (by omega)]
  simp only [zi_tb (s := s) (k := k) (by omega) (by omega), cond_true]
  have hl0 : (nI l = 0) ↔ l = 0 := by
    have := nI_eq (a := l) (b := 0) (by have := hJ.1; omega) (by decide)
    exact this
  cases hb : s.testBit k with
  | false => exact ⟨l, w, zf_J_no hJ hb, rfl⟩
  | true =>
    rw [if_pos rfl]
    by_cases h0 : l = 0
    · rw [if_pos (hl0.mpr h0), if_pos trivial]
      refine ⟨2 ^ k, g 24 k, zf_J_new hJ hk hb (Or.inl h0), ?_⟩
      rw [Int32.zero_or]
    · rw [if_neg (fun q => h0 (hl0.mp q))]
      by_cases h1 : w ≤ g 24 k
      · rw [if_pos h1]
        by_cases h2 : g 24 k = w
        · rw [if_pos h2]
          refine ⟨l ||| 2 ^ k, w, zf_J_add hJ hk hb h0 h2, ?_⟩
          rw [zi_or (by have := hJ.1; omega) (by have : 2 ^ k ≤ 2 ^ 3 := Nat.pow_le_pow_right (by decide) (by omega); omega)]
        · rw [if_neg h2]
          refine ⟨l, w, zf_J_old hJ hb h0 ((Int32.lt_or_lt_of_ne h2).resolve_left (Int32.not_lt.mpr h1)), ?_⟩
          rw [Int32.or_zero]
      · rw [if_neg h1, if_pos trivial]
        refine ⟨2 ^ k, g 24 k, zf_J_new hJ hk hb (Or.inr (Int32.not_le.mp h1)), ?_⟩
        rw [Int32.zero_or]
theorem ev_smallest_24 {dp : Nat} (Dm : zv_D) {s : Nat} (hs : s < 16) : zv_ev (dp + 1) 63 [.int (nI s), .ref 24] zS0 Dm = zo_i (nI (zf_mn s (Dm.1 24))) Dm := by
  refine zs_X6_smallest_c24 ((zd_X6_smallest_c24 _ Dm.1 Dm.2 _).trans ?_)
  obtain ⟨l1, w1, j1, e1⟩ := zx_sm_24_1 (zv_ev dp) Dm.1 Dm.2 hs (by decide : 0 < 4) (zf_J0 s (Dm.1 24) 0)
  obtain ⟨l2, w2, j2, e2⟩ := zx_sm_24_1 (zv_ev dp) Dm.1 Dm.2 hs (by decide : 1 < 4) j1
  obtain ⟨l3, w3, j3, e3⟩ := zx_sm_24_1 (zv_ev dp) Dm.1 Dm.2 hs (by decide : 2 < 4) j2
  obtain ⟨l4, w4, j4, e4⟩ := zx_sm_24_1 (zv_ev dp) Dm.1 Dm.2 hs (by decide : 3 < 4) j3
  refine e1.trans (e2.trans (e3.trans (e4.trans ?_)))
  rw [zd_X6_smallest_c24_7, if_pos (zi_le 4 4 rfl (by decide) (by decide)), zf_J_end j4]
theorem zx_sm_35_1 (ca : zv_Ca) (g : Nat → Nat → Int32) (h : Nat → Nat → Int64) {s k l : Nat} {w : Int32} (hs : s < 16) (hk : k < 4) (hJ : zf_J s (g 35) k l w) :
    ∃ l' w', zf_J s (g 35) (k + 1) l' w' ∧ zv_m zt_X6_smallest ca false 7 [some (.int (nI s)), some (.ref 35), some (.int (nI l)), some (.int w), some (.int (nI k))] [] zS0 (g, h) = zv_m zt_X6_smallest ca false 7 [some (.int (nI s)), some (.ref 35), some (.int (nI l')), some (.int w'), some (.int (nI (k + 1)))] [] zS0 (g, h) := by
  rw [zd_X6_smallest_c35_7, if_neg (zi_ge 4 4 rfl hk (by decide)), if_neg (zi_ge 4 (Int32.ofNat 4) rfl hk (by decide)), zi_in hk (by decide), nI_clamp (by omega), nI_1, zi_sh (by omega)]
  simp only [zi_tb (s := s) (k := k) (by omega) (by omega), cond_true]
  have hl0 : (nI l = 0) ↔ l = 0 := by
    have := nI_eq (a := l) (b := 0) (by have := hJ.1; omega) (by decide)
    exact this
  cases hb : s.testBit k with
  | false => exact ⟨l, w, zf_J_no hJ hb, rfl⟩
  | true =>
    rw [if_pos rfl]
    by_cases h0 : l = 0
    · rw [if_pos (hl0.mpr h0), if_pos trivial]
      refine ⟨2 ^ k, g 35 k, zf_J_new hJ hk hb (Or.inl h0), ?_⟩
      rw [Int32.zero_or]
    · rw [if_neg (fun q => h0 (hl0.mp q))]
      by_cases h1 : w ≤ g 35 k
      · rw [if_pos h1]
        by_cases h2 : g 35 k = w
        · rw [if_pos h2]
          refine ⟨l ||| 2 ^ k, w, zf_J_add hJ hk hb h0 h2, ?_⟩
          rw [zi_or (by have := hJ.1; omega) (by have : 2 ^ k ≤ 2 ^ 3 := Nat.pow_le_pow_right (by decide) (by omega); omega)]
        · rw [if_neg h2]
          refine ⟨l, w, zf_J_old hJ hb h0 ((Int32.lt_or_lt_of_ne h2).resolve_left (Int32.not_lt.mpr h1)), ?_⟩
          rw [Int32.or_zero]
      · rw [if_neg h1, if_pos trivial]
        refine ⟨2 ^ k, g 35 k, zf_J_new hJ hk hb (Or.inr (Int32.not_le.mp h1)), ?_⟩
        rw [Int32.zero_or]
theorem ev_smallest_35 {dp : Nat} (Dm : zv_D) {s : Nat} (hs : s < 16) : zv_ev (dp + 1) 63 [.int (nI s), .ref 35] zS0 Dm = zo_i (nI (zf_mn s (Dm.1 35))) Dm := by
  refine zs_X6_smallest_c35 ((zd_X6_smallest_c35 _ Dm.1 Dm.2 _).trans ?_)
  obtain ⟨l1, w1, j1, e1⟩ := zx_sm_35_1 (zv_ev dp) Dm.1 Dm.2 hs (by decide : 0 < 4) (zf_J0 s (Dm.1 35) 0)
  obtain ⟨l2, w2, j2, e2⟩ := zx_sm_35_1 (zv_ev dp) Dm.1 Dm.2 hs (by decide : 1 < 4) j1
  obtain ⟨l3, w3, j3, e3⟩ := zx_sm_35_1 (zv_ev dp) Dm.1 Dm.2 hs (by decide : 2 < 4) j2
  obtain ⟨l4, w4, j4, e4⟩ := zx_sm_35_1 (zv_ev dp) Dm.1 Dm.2 hs (by decide : 3 < 4) j3
  refine e1.trans (e2.trans (e3.trans (e4.trans ?_)))
  rw [zd_X6_smallest_c35_7, if_pos (zi_le 4 4 rfl (by decide) (by decide)), zf_J_end j4]
