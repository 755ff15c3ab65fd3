def zKC (g : Nat → Nat → Int32) (tx : Nat → Nat) (L : Nat) (S : zK) : Prop := g 1 1 = nI L ∧ (∀ k, k < L → g 2 k = nI (tx k)) ∧ g 1 2 = nI S.1.1 ∧ g 1 3 = nI S.1.2.1 ∧ g 1 11 = nI S.1.2.2.1 ∧ g 1 4 = nI S.1.2.2.2 ∧ (∀ k, k < 25 → g 3 k = nI (S.2.1 k)) ∧ (∀ k, k < 25 → g 4 k = nI (S.2.2.1 k)) ∧ ∀ e, e < 4 → g 5 e = nI (S.2.2.2.1 e) ∧ g 6 e = nI (S.2.2.2.2.1 e) ∧ g 7 e = nI (S.2.2.2.2.2.1 e) ∧ g 8 e = nI (S.2.2.2.2.2.2 e)
/-- what a scan changes -/
def zFs (g g' : Nat → Nat → Int32) : Prop := (∀ x, x < 1 ∨ x = 2 ∨ 8 < x → g' x = g x) ∧ g' 1 1 = g 1 1
theorem zFs_refl (g : Nat → Nat → Int32) : zFs g g := ⟨fun _ _ => rfl, rfl⟩
theorem zFs_trans {g1 g2 g3 : Nat → Nat → Int32} (h1 : zFs g1 g2) (h2 : zFs g2 g3) : zFs g1 g3 := ⟨fun x hx => (h2.1 x hx).trans (h1.1 x hx), h2.2.trans h1.2⟩
theorem zFs_1 (g : Nat → Nat → Int32) {q : Nat} (v : Int32) (h : q ≠ 1) : zFs g (zv_w g 1 q v) := ⟨fun x hx => zw_cell _ _ _ (by omega), zw_other _ _ _ (fun z => h z.symm)⟩
theorem zFs_c (g : Nat → Nat → Int32) {c : Nat} (q : Nat) (v : Int32) (h : 3 ≤ c ∧ c ≤ 8) : zFs g (zv_w g c q v) := ⟨fun x hx => zw_cell _ _ _ (by omega), congrFun (zw_cell _ _ _ (by omega)) 1⟩
theorem zKC_p {g : Nat → Nat → Int32} {tx : Nat → Nat} {L : Nat} {S : zK} (h : zKC g tx L S) (p : Nat) : zKC (zv_w g 1 11 (nI p)) tx L (zk_sp S p) := by
  obtain ⟨h1, h2, h3, h4, h5, h6, h7, h8, h9⟩ := h
  refine ⟨(zw_other _ _ _ (by decide)).trans h1, fun k hk => (congrFun (zw_cell _ _ _ (by decide)) k).trans (h2 k hk), (zw_other _ _ _ (by decide)).trans h3, (zw_other _ _ _ (by decide)).trans h4, zw_same _ _ _ _, (zw_other _ _ _ (by decide)).trans h6, fun k hk => (congrFun (zw_cell _ _ _ (by decide)) k).trans (h7 k hk), fun k hk => (congrFun (zw_cell _ _ _ (by decide)) k).trans (h8 k hk), fun e he => ?_⟩
  rw [zw_cell _ _ _ (by decide), zw_cell _ _ _ (by decide), zw_cell _ _ _ (by decide), zw_cell _ _ _ (by decide)]
  exact h9 e he
theorem zi_dgl : ∀ t, t < 256 → ∀ lo, lo < 10 → ((nI t - 48 < nI lo) ↔ t < 48 + lo) ∧ ((nI t - 48 ≤ nI lo) ↔ t ≤ 48 + lo) := by decide +kernel
theorem zi_dge : ∀ lo, lo < 10 → (-1 : Int32) - 48 < nI lo := by decide +kernel
section SC
variable {dp : Nat} {g : Nat → Nat → Int32} {h : Nat → Nat → Int64} {tx : Nat → Nat} {L : Nat} {S : zK}
theorem ev_sign (hK : zKC g tx L S) (hL : L ≤ 90) (hp : S.1.2.2.1 < 1000) : zv_ev (dp + 1) 40 [.ref 1] zS0 (g, h) = zo_i (if S.1.2.2.1 < L then nI (tx S.1.2.2.1) else -1) (g, h) := by
  obtain ⟨h1, h2, h3, h4, h5, h6, h7, h8, h9⟩ := hK
  refine zs_X4_sign ((zd_X4_sign _ g h).trans ?_)
  rw [h5, h1, if_neg (nI_pos (by omega))]
  by_cases q : S.1.2.2.1 < L
  · rw [if_neg (nI_ge q (by omega)), if_neg (zi_ge 90 90 rfl (by omega) (by decide)), zi_in (n := 90) (by omega) (by decide), nI_clamp (by omega), h2 _ q, if_pos q]
    rfl
  · rw [if_pos (nI_le (by omega) (by omega)), if_neg q]
/-- what a digit's reading comes to -/
def zk_dv (n : Int32) (o : Option Nat) : Int32 := match o with
  | none => n
  | some v => nI v
theorem ev_digit (hK : zKC g tx L S) (hL : L ≤ 90) (hb : ∀ k, k < L → tx k < 256) (hp : S.1.2.2.1 < 1000) {lo hi : Nat} (hlo : lo < 10) (hhi : hi < 10) : zv_ev (dp + 2) 41 [.ref 1, .int (nI lo), .int (nI hi)] zS0 (g, h) = (match zk_dg tx L S.1.2.2.1 lo hi with
    | none => zo_i (-1) (g, h)
    | some v => zo_i (nI v) (zv_w g 1 11 (nI (S.1.2.2.1 + 1)), h)) := by
  have hst := zd_X4_digit (zv_ev (dp + 1)) g h (nI lo) (nI hi)
  rw [ev_sign (dp := dp) (h := h) hK hL hp] at hst
  simp only [Option.bind_some] at hst
  rw [hK.2.2.2.2.1, nI_1] at hst
  unfold zk_dg
  by_cases q : S.1.2.2.1 < L
  · have ht := hb _ q
    obtain ⟨a1, -⟩ := zi_dgl _ ht lo hlo
    obtain ⟨-, a2⟩ := zi_dgl _ ht hi hhi
    rw [if_pos q] at hst
    by_cases q1 : tx S.1.2.2.1 < 48 + lo
    · rw [if_pos (a1.mpr q1)] at hst
      rw [if_neg (fun z => by omega)]
      exact zs_X4_digit hst
    · rw [if_neg (fun z => q1 (a1.mp z))] at hst
      by_cases q2 : tx S.1.2.2.1 ≤ 48 + hi
      · rw [if_pos (a2.mpr q2), show nI (tx S.1.2.2.1) - 48 = nI (tx S.1.2.2.1 - 48) from pk_sub (a := tx S.1.2.2.1) (b := 48) (by omega)] at hst
        rw [if_pos ⟨q, by omega, q2⟩]
        exact zs_X4_digit hst
      · rw [if_neg (fun z => q2 (a2.mp z))] at hst
        rw [if_neg (fun z => q2 z.2.2)]
        exact zs_X4_digit hst
  · rw [if_neg q, if_pos (zi_dge lo hlo)] at hst
    rw [if_neg (fun z => q z.1)]
    exact zs_X4_digit hst
theorem ev_isFree_3 {w : Nat → Nat} (hw : ∀ k, k < 25 → g 3 k = nI (w k)) (h9 : ∀ k, w k ≤ 9) {i j : Nat} (hi : i < 5) (hj : j < 5) : zv_ev (dp + 1) 39 [.ref 3, .int (nI i), .int (nI j)] zS0 (g, h) = zo_i (if zk_fr w i j = true then 1 else 0) (g, h) := by
  refine zs_X4_isFree_t3 ((zd_X4_isFree_t3 _ g h _ _).trans ?_)
  have := h9 (5 * i + j)
  rw [zx_pair hi hj]
  unfold zk_fr
  by_cases q : i = j
  · rw [if_pos (by rw [q]), if_neg (by simp [q])]
  · rw [if_neg (fun z => q ((nI_eq (by omega) (by omega)).mp z)), if_neg (nI_pos (by omega)), if_neg (zi_ge 25 (Int32.ofNat 25) rfl (by omega) (by decide)), zi_in (n := 25) (by omega) (by decide), nI_clamp (by omega), hw _ (by omega), cond_true]
    by_cases q2 : w (5 * i + j) = 0
    · rw [if_pos ((zi_0 (by omega)).mpr q2), if_pos (by simp [q, q2])]
    · rw [if_neg (fun z => q2 ((zi_0 (by omega)).mp z)), if_neg (by simp [q2])]
theorem ev_hasFree_3 {w : Nat → Nat} {n : Nat} (hn : g 1 2 = nI n) (h5 : n ≤ 5) (hw : ∀ k, k < 25 → g 3 k = nI (w k)) (h9 : ∀ k, w k ≤ 9) {i : Nat} (hi : i < 5) : zv_ev (dp + 2) 38 [.ref 1, .ref 3, .int (nI i)] zS0 (g, h) = zo_i (if zk_hf w i n = true then 1 else 0) (g, h) := by
  have mono : ∀ k, zk_hf w i k = true → ∀ m, k ≤ m → zk_hf w i m = true := by
    intro k hk m hm
    induction m with
    | zero => rw [show 0 = k by omega]; exact hk
    | succ m ih =>
      by_cases e : k = m + 1
      · rw [← e]; exact hk
      · show (zk_hf w i m || _) = true
        rw [ih (by omega), Bool.true_or]
  rcases zl_ex (σ := Unit) (fun k _ => zv_m zt_X4_hasFree (zv_ev (dp + 1)) true 2 [some (.ref 1), some (.ref 3), some (.int (nI i)), some (.int (nI k))] [] zS0 (g, h)) n (fun k _ => zk_hf w i k = false) (fun z => zk_hf w i n = true ∧ z = zv_ri 1 zS0 (g, h)) (by
    intro k _ hk hI
    have e1 := zd_X4_hasFree_t3_2 (zv_ev (dp + 1)) g h (nI i) (nI k)
    rw [hn, if_neg (nI_ge hk (by omega)), ev_isFree_3 (dp := dp) (h := h) hw h9 hi (by omega), nI_1] at e1
    simp only [Option.bind_some] at e1
    by_cases q : zk_fr w i k = true
    · rw [if_pos q, if_neg (show ¬ (1 : Int32) = 0 by decide)] at e1
      exact Or.inl ⟨mono (k + 1) (by show (zk_hf w i k || zk_fr w i k) = true; rw [q, Bool.or_true]) n (by omega), e1⟩
    · rw [if_neg q, if_pos rfl] at e1
      refine Or.inr ⟨(), ?_, e1⟩
      show (zk_hf w i k || zk_fr w i k) = false
      rw [hI]
      simpa using q) () rfl with ⟨q1, q2⟩ | ⟨-, q1, q2⟩
  · have hv : (if zk_hf w i n = true then (1 : Int32) else 0) = 1 := if_pos q1
    rw [hv]
    exact zs_X4_hasFree_t3 ((zd_X4_hasFree_t3 _ g h _).trans q2)
  · have hv : (if zk_hf w i n = true then (1 : Int32) else 0) = 0 := if_neg (by rw [q1]; decide)
    rw [hv]
    refine zs_X4_hasFree_t3 ((zd_X4_hasFree_t3 _ g h _).trans (q2.trans ?_))
    rw [zd_X4_hasFree_t3_2, hn, if_pos (nI_le (Nat.le_refl _) (by omega))]
theorem ev_anyFree_3 {w : Nat → Nat} {n : Nat} (hn : g 1 2 = nI n) (h5 : n ≤ 5) (hw : ∀ k, k < 25 → g 3 k = nI (w k)) (h9 : ∀ k, w k ≤ 9) : zv_ev (dp + 3) 37 [.ref 1, .ref 3] zS0 (g, h) = zo_i (if zk_af w n n = true then 1 else 0) (g, h) := by
  have mono : ∀ k, zk_af w n k = true → ∀ m, k ≤ m → zk_af w n m = true := by
    intro k hk m hm
    induction m with
    | zero => rw [show 0 = k by omega]; exact hk
    | succ m ih =>
      by_cases e : k = m + 1
      · rw [← e]; exact hk
      · show (zk_af w n m || _) = true
        rw [ih (by omega), Bool.true_or]
  rcases zl_ex (σ := Unit) (fun k _ => zv_m zt_X4_anyFree (zv_ev (dp + 2)) true 2 [some (.ref 1), some (.ref 3), some (.int (nI k))] [] zS0 (g, h)) n (fun k _ => zk_af w n k = false) (fun z => zk_af w n n = true ∧ z = zv_ri 1 zS0 (g, h)) (by
    intro k _ hk hI
    have e1 := zd_X4_anyFree_t3_2 (zv_ev (dp + 2)) g h (nI k)
    rw [hn, if_neg (nI_ge hk (by omega)), ev_hasFree_3 (dp := dp) (h := h) hn h5 hw h9 (by omega), nI_1] at e1
    simp only [Option.bind_some] at e1
    by_cases q : zk_hf w k n = true
    · rw [if_pos q, if_neg (show ¬ (1 : Int32) = 0 by decide)] at e1
      exact Or.inl ⟨mono (k + 1) (by show (zk_af w n k || zk_hf w k n) = true; rw [q, Bool.or_true]) n (by omega), e1⟩
    · rw [if_neg q, if_pos rfl] at e1
      refine Or.inr ⟨(), ?_, e1⟩
      show (zk_af w n k || zk_hf w k n) = false
      rw [hI]
      simpa using q) () rfl with ⟨q1, q2⟩ | ⟨-, q1, q2⟩
  · have hv : (if zk_af w n n = true then (1 : Int32) else 0) = 1 := if_pos q1
    rw [hv]
    exact zs_X4_anyFree_t3 ((zd_X4_anyFree_t3 _ g h).trans q2)
  · have hv : (if zk_af w n n = true then (1 : Int32) else 0) = 0 := if_neg (by rw [q1]; decide)
    rw [hv]
    refine zs_X4_anyFree_t3 ((zd_X4_anyFree_t3 _ g h).trans (q2.trans ?_))
    rw [zd_X4_anyFree_t3_2, hn, if_pos (nI_le (Nat.le_refl _) (by omega))]
theorem ev_setPair_3 {i j : Nat} (hi : i < 5) (hj : j < 5) (a b : Int32) : zv_ev (dp + 1) 36 [.ref 3, .int (nI (5 * i + j)), .int a, .int b] zS0 (g, h) = zo_v (zv_w (zv_w g 3 (5 * i + j) a) 3 (5 * j + i) b, h) := by
  refine zs_X4_setPair_t3 ((zd_X4_setPair_t3 _ g h _ _ _).trans ?_)
  have e : ((nI (5 * i + j) - nI (5 * i + j) / 5 * 5) * 5) + (nI (5 * i + j) / 5) = nI (5 * j + i) := by
    have key : ∀ i, i < 5 → ∀ j, j < 5 → ((nI (5 * i + j) - nI (5 * i + j) / 5 * 5) * 5) + (nI (5 * i + j) / 5) = nI (5 * j + i) := by decide +kernel
    exact key i hi j hj
  rw [e, if_neg (nI_pos (by omega)), if_neg (zi_ge 25 (Int32.ofNat 25) rfl (by omega) (by decide)), if_neg (zi_ge 25 (Int32.ofNat 25) rfl (by omega) (by decide)), zi_in (n := 25) (by omega) (by decide), zi_in (n := 25) (by omega) (by decide), nI_clamp (by omega), nI_clamp (by omega)]
  rfl
theorem ev_isFree_4 {w : Nat → Nat} (hw : ∀ k, k < 25 → g 4 k = nI (w k)) (h9 : ∀ k, w k ≤ 9) {i j : Nat} (hi : i < 5) (hj : j < 5) : zv_ev (dp + 1) 39 [.ref 4, .int (nI i), .int (nI j)] zS0 (g, h) = zo_i (if zk_fr w i j = true then 1 else 0) (g, h) := by
  refine zs_X4_isFree_t4 ((zd_X4_isFree_t4 _ g h _ _).trans ?_)
  have := h9 (5 * i + j)
  rw [zx_pair hi hj]
  unfold zk_fr
  by_cases q : i = j
  · rw [if_pos (by rw [q]), if_neg (by simp [q])]
  · rw [if_neg (fun z => q ((nI_eq (by omega) (by omega)).mp z)), if_neg (nI_pos (by omega)), if_neg (zi_ge 25 (Int32.ofNat 25) rfl (by omega) (by decide)), zi_in (n := 25) (by omega) (by decide), nI_clamp (by omega), hw _ (by omega), cond_true]
    by_cases q2 : w (5 * i + j) = 0
    · rw [if_pos ((zi_0 (by omega)).mpr q2), if_pos (by simp [q, q2])]
    · rw [if_neg (fun z => q2 ((zi_0 (by omega)).mp z)), if_neg (by simp [q2])]
theorem ev_hasFree_4 {w : Nat → Nat} {n : Nat} (hn : g 1 2 = nI n) (h5 : n ≤ 5) (hw : ∀ k, k < 25 → g 4 k = nI (w k)) (h9 : ∀ k, w k ≤ 9) {i : Nat} (hi : i < 5) : zv_ev (dp + 2) 38 [.ref 1, .ref 4, .int (nI i)] zS0 (g, h) = zo_i (if zk_hf w i n = true then 1 else 0) (g, h) := by
  have mono : ∀ k, zk_hf w i k = true → ∀ m, k ≤ m → zk_hf w i m = true := by
    intro k hk m hm
    induction m with
    | zero => rw [show 0 = k by omega]; exact hk
    | succ m ih =>
      by_cases e : k = m + 1
      · rw [← e]; exact hk
      · show (zk_hf w i m || _) = true
        rw [ih (by omega), Bool.true_or]
  rcases zl_ex (σ := Unit) (fun k _ => zv_m zt_X4_hasFree (zv_ev (dp + 1)) true 2 [some (.ref 1), some (.ref 4), some (.int (nI i)), some (.int (nI k))] [] zS0 (g, h)) n (fun k _ => zk_hf w i k = false) (fun z => zk_hf w i n = true ∧ z = zv_ri 1 zS0 (g, h)) (by
    intro k _ hk hI
    have e1 := zd_X4_hasFree_t4_2 (zv_ev (dp + 1)) g h (nI i) (nI k)
    rw [hn, if_neg (nI_ge hk (by omega)), ev_isFree_4 (dp := dp) (h := h) hw h9 hi (by omega), nI_1] at e1
    simp only [Option.bind_some] at e1
    by_cases q : zk_fr w i k = true
    · rw [if_pos q, if_neg (show ¬ (1 : Int32) = 0 by decide)] at e1
      exact Or.inl ⟨mono (k + 1) (by show (zk_hf w i k || zk_fr w i k) = true; rw [q, Bool.or_true]) n (by omega), e1⟩
    · rw [if_neg q, if_pos rfl] at e1
      refine Or.inr ⟨(), ?_, e1⟩
      show (zk_hf w i k || zk_fr w i k) = false
      rw [hI]
      simpa using q) () rfl with ⟨q1, q2⟩ | ⟨-, q1, q2⟩
  · have hv : (if zk_hf w i n = true then (1 : Int32) else 0) = 1 := if_pos q1
    rw [hv]
    exact zs_X4_hasFree_t4 ((zd_X4_hasFree_t4 _ g h _).trans q2)
  · have hv : (if zk_hf w i n = true then (1 : Int32) else 0) = 0 := if_neg (by rw [q1]; decide)
    rw [hv]
    refine zs_X4_hasFree_t4 ((zd_X4_hasFree_t4 _ g h _).trans (q2.trans ?_))
    rw [zd_X4_hasFree_t4_2, hn, if_pos (nI_le (Nat.le_refl _) (by omega))]
theorem ev_anyFree_4 {w : Nat → Nat} {n : Nat} (hn : g 1 2 = nI n) (h5 : n ≤ 5) (hw : ∀ k, k < 25 → g 4 k = nI (w k)) (h9 : ∀ k, w k ≤ 9) : zv_ev (dp + 3) 37 [.ref 1, .ref 4] zS0 (g, h) = zo_i (if zk_af w n n = true then 1 else 0) (g, h) := by
  have mono : ∀ k, zk_af w n k = true → ∀ m, k ≤ m → zk_af w n m = true := by
    intro k hk m hm
    induction m with
    | zero => rw [show 0 = k by omega]; exact hk
    | succ m ih =>
      by_cases e : k = m + 1
      · rw [← e]; exact hk
      · show (zk_af w n m || _) = true
        rw [ih (by omega), Bool.true_or]
  rcases zl_ex (σ := Unit) (fun k _ => zv_m zt_X4_anyFree (zv_ev (dp + 2)) true 2 [some (.ref 1), some (.ref 4), some (.int (nI k))] [] zS0 (g, h)) n (fun k _ => zk_af w n k = false) (fun z => zk_af w n n = true ∧ z = zv_ri 1 zS0 (g, h)) (by
    intro k _ hk hI
    have e1 := zd_X4_anyFree_t4_2 (zv_ev (dp + 2)) g h (nI k)
    rw [hn, if_neg (nI_ge hk (by omega)), ev_hasFree_4 (dp := dp) (h := h) hn h5 hw h9 (by omega), nI_1] at e1
    simp only [Option.bind_some] at e1
    by_cases q : zk_hf w k n = true
    · rw [if_pos q, if_neg (show ¬ (1 : Int32) = 0 by decide)] at e1
      exact Or.inl ⟨mono (k + 1) (by show (zk_af w n k || zk_hf w k n) = true; rw [q, Bool.or_true]) n (by omega), e1⟩
    · rw [if_neg q, if_pos rfl] at e1
      refine Or.inr ⟨(), ?_, e1⟩
      show (zk_af w n k || zk_hf w k n) = false
      rw [hI]
      simpa using q) () rfl with ⟨q1, q2⟩ | ⟨-, q1, q2⟩
  · have hv : (if zk_af w n n = true then (1 : Int32) else 0) = 1 := if_pos q1
    rw [hv]
    exact zs_X4_anyFree_t4 ((zd_X4_anyFree_t4 _ g h).trans q2)
  · have hv : (if zk_af w n n = true then (1 : Int32) else 0) = 0 := if_neg (by rw [q1]; decide)
    rw [hv]
    refine zs_X4_anyFree_t4 ((zd_X4_anyFree_t4 _ g h).trans (q2.trans ?_))
    rw [zd_X4_anyFree_t4_2, hn, if_pos (nI_le (Nat.le_refl _) (by omega))]
theorem ev_setPair_4 {i j : Nat} (hi : i < 5) (hj : j < 5) (a b : Int32) : zv_ev (dp + 1) 36 [.ref 4, .int (nI (5 * i + j)), .int a, .int b] zS0 (g, h) = zo_v (zv_w (zv_w g 4 (5 * i + j) a) 4 (5 * j + i) b, h) := by
  refine zs_X4_setPair_t4 ((zd_X4_setPair_t4 _ g h _ _ _).trans ?_)
  have e : ((nI (5 * i + j) - nI (5 * i + j) / 5 * 5) * 5) + (nI (5 * i + j) / 5) = nI (5 * j + i) := by
    have key : ∀ i, i < 5 → ∀ j, j < 5 → ((nI (5 * i + j) - nI (5 * i + j) / 5 * 5) * 5) + (nI (5 * i + j) / 5) = nI (5 * j + i) := by decide +kernel
    exact key i hi j hj
  rw [e, if_neg (nI_pos (by omega)), if_neg (zi_ge 25 (Int32.ofNat 25) rfl (by omega) (by decide)), if_neg (zi_ge 25 (Int32.ofNat 25) rfl (by omega) (by decide)), zi_in (n := 25) (by omega) (by decide), zi_in (n := 25) (by omega) (by decide), nI_clamp (by omega), nI_clamp (by omega)]
  rfl
/-- a pair, scanned -/
theorem ev_scanPair_3 (hK : zKC g tx L S) (ok : zK_ok S) (hL : L ≤ 90) (hb : ∀ k, k < L → tx k < 256) (hp : S.1.2.2.1 < 900) (h9 : ∀ k, S.2.1 k ≤ 9) (hw : ∀ (g' : Nat → Nat → Int32) (S' : zK), zKC g' tx L S' → S'.2 = S.2 → ∀ k, k < 25 → g' 3 k = nI (S.2.1 k)) : ∃ g', zFs g g' ∧ zKC g' tx L (zk_sp S (match zk_tw tx L (S.2.1) S.1.1 S.1.2.2.1 with | .inl e => e | .inr _ => S.1.2.2.1 + 3)) ∧ zv_ev (dp + 4) 35 [.ref 1, .ref 3] zS0 (g, h) = zo_i (match zk_tw tx L (S.2.1) S.1.1 S.1.2.2.1 with | .inl _ => -1 | .inr q => nI (5 * q.1 + q.2)) (g', h) := by
  have h5 := ok.2.1
  have h1 := ok.1
  have hn := hK.2.2.1
  have hst := zd_X4_scanPair_t3 (zv_ev (dp + 3)) g h
  have hn1 : nI S.1.1 - 1 = nI (S.1.1 - 1) := pk_sub (a := S.1.1) (b := 1) h1
  have K1 := zKC_p hK (S.1.2.2.1 + 1)
  have F1 : zFs g (zv_w g 1 11 (nI (S.1.2.2.1 + 1))) := zFs_1 _ _ (by decide)
  rw [ev_anyFree_3 (dp := dp) (h := h) hn h5 (hw g S hK rfl) h9] at hst
  simp only [Option.bind_some] at hst
  unfold zk_tw
  by_cases qa : zk_af (S.2.1) S.1.1 S.1.1 = true
  · rw [if_pos qa, if_neg (show ¬ (1 : Int32) = 0 by decide), hK.2.2.2.2.1, nI_1, zw_other _ _ _ (by decide), hn, hn1] at hst
    have d1 := ev_digit (dp := dp + 1) (h := h) (lo := 0) (hi := S.1.1 - 1) K1 hL hb (by show S.1.2.2.1 + 1 < _; omega) (by decide) (by omega)
    have d1' : zv_ev (dp + 3) 41 [.ref 1, .int 0, .int (nI (S.1.1 - 1))] zS0 (zv_w g 1 11 (nI (S.1.2.2.1 + 1)), h) = _ := d1
    rw [d1'] at hst
    rw [if_pos qa]
    have e1 : (zk_sp S (S.1.2.2.1 + 1)).1.2.2.1 = S.1.2.2.1 + 1 := rfl
    rw [e1] at hst
    cases hd1 : zk_dg tx L (S.1.2.2.1 + 1) 0 (S.1.1 - 1) with
    | none =>
      rw [hd1] at hst
      exact ⟨_, F1, K1, zs_X4_scanPair_t3 hst⟩
    | some i =>
      rw [hd1] at hst
      have li := zk_dg_le hd1
      have K2 := zKC_p K1 (S.1.2.2.1 + 1 + 1)
      have F2 := zFs_trans F1 (zFs_1 (zv_w g 1 11 (nI (S.1.2.2.1 + 1))) (q := 11) (nI (S.1.2.2.1 + 1 + 1)) (by decide))
      simp only [Option.bind_some] at hst
      have hnn : zv_w (zv_w g 1 11 (nI (S.1.2.2.1 + 1))) 1 11 (nI (S.1.2.2.1 + 1 + 1)) 1 2 = nI S.1.1 := K2.2.2.1
      rw [if_neg (zi_ne1 (by omega)), ev_hasFree_3 (dp := dp + 1) (h := h) hnn h5 (hw _ _ K2 rfl) h9 (by omega)] at hst
      simp only [Option.bind_some] at hst
      dsimp only
      by_cases qh : zk_hf (S.2.1) i S.1.1 = true
      · rw [if_pos qh, if_neg (show ¬ (1 : Int32) = 0 by decide), hnn, hn1] at hst
        have d2 := ev_digit (dp := dp + 1) (h := h) (lo := 0) (hi := S.1.1 - 1) K2 hL hb (by show S.1.2.2.1 + 1 + 1 < _; omega) (by decide) (by omega)
        have d2' : zv_ev (dp + 3) 41 [.ref 1, .int 0, .int (nI (S.1.1 - 1))] zS0 (zv_w (zv_w g 1 11 (nI (S.1.2.2.1 + 1))) 1 11 (nI (S.1.2.2.1 + 1 + 1)), h) = _ := d2
        rw [d2'] at hst
        rw [if_pos qh]
        have e2 : (zk_sp (zk_sp S (S.1.2.2.1 + 1)) (S.1.2.2.1 + 1 + 1)).1.2.2.1 = S.1.2.2.1 + 2 := rfl
        rw [e2] at hst
        cases hd2 : zk_dg tx L (S.1.2.2.1 + 2) 0 (S.1.1 - 1) with
        | none =>
          rw [hd2] at hst
          exact ⟨_, F2, K2, zs_X4_scanPair_t3 hst⟩
        | some j =>
          rw [hd2] at hst
          have lj := zk_dg_le hd2
          have K3 := zKC_p K2 (S.1.2.2.1 + 2 + 1)
          have F3 := zFs_trans F2 (zFs_1 (zv_w (zv_w g 1 11 (nI (S.1.2.2.1 + 1))) 1 11 (nI (S.1.2.2.1 + 1 + 1))) (q := 11) (nI (S.1.2.2.1 + 2 + 1)) (by decide))
          simp only [Option.bind_some] at hst
          rw [if_neg (zi_ne1 (by omega)), ev_isFree_3 (dp := dp + 2) (h := h) (hw _ _ K3 rfl) h9 (by omega) (by omega)] at hst
          simp only [Option.bind_some] at hst
          dsimp only
          by_cases qf : zk_fr (S.2.1) i j = true
          · rw [if_pos qf, if_neg (show ¬ (1 : Int32) = 0 by decide), zx_pair (by omega) (by omega)] at hst
            rw [if_pos qf]
            exact ⟨_, F3, K3, zs_X4_scanPair_t3 hst⟩
          · rw [if_neg qf, if_pos rfl, zw_same, nI_pred] at hst
            rw [if_neg qf]
            exact ⟨_, zFs_trans F3 (zFs_1 _ _ (by decide)), zKC_p K3 _, zs_X4_scanPair_t3 hst⟩
      · rw [if_neg qh, if_pos rfl, zw_same, nI_pred] at hst
        rw [if_neg qh]
        exact ⟨_, zFs_trans F2 (zFs_1 _ _ (by decide)), zKC_p K2 _, zs_X4_scanPair_t3 hst⟩
  · rw [if_neg qa, if_pos rfl] at hst
    rw [if_neg qa]
    exact ⟨g, zFs_refl g, hK, zs_X4_scanPair_t3 hst⟩
theorem ev_scanPair_4 (hK : zKC g tx L S) (ok : zK_ok S) (hL : L ≤ 90) (hb : ∀ k, k < L → tx k < 256) (hp : S.1.2.2.1 < 900) (h9 : ∀ k, S.2.2.1 k ≤ 9) (hw : ∀ (g' : Nat → Nat → Int32) (S' : zK), zKC g' tx L S' → S'.2 = S.2 → ∀ k, k < 25 → g' 4 k = nI (S.2.2.1 k)) : ∃ g', zFs g g' ∧ zKC g' tx L (zk_sp S (match zk_tw tx L (S.2.2.1) S.1.1 S.1.2.2.1 with | .inl e => e | .inr _ => S.1.2.2.1 + 3)) ∧ zv_ev (dp + 4) 35 [.ref 1, .ref 4] zS0 (g, h) = zo_i (match zk_tw tx L (S.2.2.1) S.1.1 S.1.2.2.1 with | .inl _ => -1 | .inr q => nI (5 * q.1 + q.2)) (g', h) := by
  have h5 := ok.2.1
  have h1 := ok.1
  have hn := hK.2.2.1
  have hst := zd_X4_scanPair_t4 (zv_ev (dp + 3)) g h
  have hn1 : nI S.1.1 - 1 = nI (S.1.1 - 1) := pk_sub (a := S.1.1) (b := 1) h1
  have K1 := zKC_p hK (S.1.2.2.1 + 1)
  have F1 : zFs g (zv_w g 1 11 (nI (S.1.2.2.1 + 1))) := zFs_1 _ _ (by decide)
  rw [ev_anyFree_4 (dp := dp) (h := h) hn h5 (hw g S hK rfl) h9] at hst
  simp only [Option.bind_some] at hst
  unfold zk_tw
  by_cases qa : zk_af (S.2.2.1) S.1.1 S.1.1 = true
  · rw [if_pos qa, if_neg (show ¬ (1 : Int32) = 0 by decide), hK.2.2.2.2.1, nI_1, zw_other _ _ _ (by decide), hn, hn1] at hst
    have d1 := ev_digit (dp := dp + 1) (h := h) (lo := 0) (hi := S.1.1 - 1) K1 hL hb (by show S.1.2.2.1 + 1 < _; omega) (by decide) (by omega)
    have d1' : zv_ev (dp + 3) 41 [.ref 1, .int 0, .int (nI (S.1.1 - 1))] zS0 (zv_w g 1 11 (nI (S.1.2.2.1 + 1)), h) = _ := d1
    rw [d1'] at hst
    rw [if_pos qa]
    have e1 : (zk_sp S (S.1.2.2.1 + 1)).1.2.2.1 = S.1.2.2.1 + 1 := rfl
    rw [e1] at hst
    cases hd1 : zk_dg tx L (S.1.2.2.1 + 1) 0 (S.1.1 - 1) with
    | none =>
      rw [hd1] at hst
      exact ⟨_, F1, K1, zs_X4_scanPair_t4 hst⟩
    | some i =>
      rw [hd1] at hst
      have li := zk_dg_le hd1
      have K2 := zKC_p K1 (S.1.2.2.1 + 1 + 1)
      have F2 := zFs_trans F1 (zFs_1 (zv_w g 1 11 (nI (S.1.2.2.1 + 1))) (q := 11) (nI (S.1.2.2.1 + 1 + 1)) (by decide))
      simp only [Option.bind_some] at hst
      have hnn : zv_w (zv_w g 1 11 (nI (S.1.2.2.1 + 1))) 1 11 (nI (S.1.2.2.1 + 1 + 1)) 1 2 = nI S.1.1 := K2.2.2.1
      rw [if_neg (zi_ne1 (by omega)), ev_hasFree_4 (dp := dp + 1) (h := h) hnn h5 (hw _ _ K2 rfl) h9 (by omega)] at hst
      simp only [Option.bind_some] at hst
      dsimp only
      by_cases qh : zk_hf (S.2.2.1) i S.1.1 = true
      · rw [if_pos qh, if_neg (show ¬ (1 : Int32) = 0 by decide), hnn, hn1] at hst
        have d2 := ev_digit (dp := dp + 1) (h := h) (lo := 0) (hi := S.1.1 - 1) K2 hL hb (by show S.1.2.2.1 + 1 + 1 < _; omega) (by decide) (by omega)
        have d2' : zv_ev (dp + 3) 41 [.ref 1, .int 0, .int (nI (S.1.1 - 1))] zS0 (zv_w (zv_w g 1 11 (nI (S.1.2.2.1 + 1))) 1 11 (nI (S.1.2.2.1 + 1 + 1)), h) = _ := d2
        rw [d2'] at hst
        rw [if_pos qh]
        have e2 : (zk_sp (zk_sp S (S.1.2.2.1 + 1)) (S.1.2.2.1 + 1 + 1)).1.2.2.1 = S.1.2.2.1 + 2 := rfl
        rw [e2] at hst
        cases hd2 : zk_dg tx L (S.1.2.2.1 + 2) 0 (S.1.1 - 1) with
        | none =>
          rw [hd2] at hst
          exact ⟨_, F2, K2, zs_X4_scanPair_t4 hst⟩
        | some j =>
          rw [hd2] at hst
          have lj := zk_dg_le hd2
          have K3 := zKC_p K2 (S.1.2.2.1 + 2 + 1)
          have F3 := zFs_trans F2 (zFs_1 (zv_w (zv_w g 1 11 (nI (S.1.2.2.1 + 1))) 1 11 (nI (S.1.2.2.1 + 1 + 1))) (q := 11) (nI (S.1.2.2.1 + 2 + 1)) (by decide))
          simp only [Option.bind_some] at hst
          rw [if_neg (zi_ne1 (by omega)), ev_isFree_4 (dp := dp + 2) (h := h) (hw _ _ K3 rfl) h9 (by omega) (by omega)] at hst
          simp only [Option.bind_some] at hst
          dsimp only
          by_cases qf : zk_fr (S.2.2.1) i j = true
          · rw [if_pos qf, if_neg (show ¬ (1 : Int32) = 0 by decide), zx_pair (by omega) (by omega)] at hst
            rw [if_pos qf]
            exact ⟨_, F3, K3, zs_X4_scanPair_t4 hst⟩
          · rw [if_neg qf, if_pos rfl, zw_same, nI_pred] at hst
            rw [if_neg qf]
            exact ⟨_, zFs_trans F3 (zFs_1 _ _ (by decide)), zKC_p K3 _, zs_X4_scanPair_t4 hst⟩
      · rw [if_neg qh, if_pos rfl, zw_same, nI_pred] at hst
        rw [if_neg qh]
        exact ⟨_, zFs_trans F2 (zFs_1 _ _ (by decide)), zKC_p K2 _, zs_X4_scanPair_t4 hst⟩
  · rw [if_neg qa, if_pos rfl] at hst
    rw [if_neg qa]
    exact ⟨g, zFs_refl g, hK, zs_X4_scanPair_t4 hst⟩
end SC
