def zKM (g : Nat → Nat → Int32) (tx : Nat → Nat) (L : Nat) (S : zK) : Prop := g 116 2 = nI L ∧ (∀ k, k < L → g 117 k = nI (tx k)) ∧ g 118 0 = nI S.1.1 ∧ g 118 1 = nI S.1.2.1 ∧ g 116 3 = nI S.1.2.2.1 ∧ g 116 4 = nI S.1.2.2.2 ∧ (∀ k, k < 25 → g 118 (5 + k) = nI (S.2.1 k)) ∧ (∀ k, k < 25 → g 118 (30 + k) = nI (S.2.2.1 k)) ∧ (∀ e, e < S.1.2.1 → g 118 (55 + 4 * e + 0) = nI (S.2.2.2.1 e) ∧ g 118 (55 + 4 * e + 1) = nI (S.2.2.2.2.1 e) ∧ g 118 (55 + 4 * e + 2) = nI (S.2.2.2.2.2.1 e) ∧ g 118 (55 + 4 * e + 3) = nI (S.2.2.2.2.2.2 e)) ∧ (∀ k, 71 ≤ k → k < 101 → g 118 k = -9) ∧ g 118 2 = 0 ∧ g 118 3 = 0 ∧ g 118 4 = 0
def zFm (g g' : Nat → Nat → Int32) : Prop := (∀ x, x ≠ 116 → x ≠ 118 → g' x = g x) ∧ ∀ q, q ≠ 3 → q ≠ 4 → q ≠ 29 → q ≠ 30 → g' 116 q = g 116 q
theorem zFm_refl (g : Nat → Nat → Int32) : zFm g g := ⟨fun _ _ _ => rfl, fun _ _ _ _ _ => rfl⟩
theorem zFm_trans {g1 g2 g3 : Nat → Nat → Int32} (h1 : zFm g1 g2) (h2 : zFm g2 g3) : zFm g1 g3 := ⟨fun x a b => (h2.1 x a b).trans (h1.1 x a b), fun q a b c d => (h2.2 q a b c d).trans (h1.2 q a b c d)⟩
theorem zFm_6 (g : Nat → Nat → Int32) {q : Nat} (v : Int32) (h : q = 3 ∨ q = 4 ∨ q = 29 ∨ q = 30) : zFm g (zv_w g 116 q v) := ⟨fun x a _ => zw_cell _ _ _ a, fun p a b c d => zw_other _ _ _ (by omega)⟩
theorem zFm_8 (g : Nat → Nat → Int32) (q : Nat) (v : Int32) : zFm g (zv_w g 118 q v) := ⟨fun x _ b => zw_cell _ _ _ b, fun p _ _ _ _ => congrFun (zw_cell _ _ _ (by decide)) p⟩
theorem zFm_N {g g' : Nat → Nat → Int32} (h : zFm g g') : zN g g' := ⟨fun x hx => h.1 x (by omega) (by omega), fun q hq => h.2 q (by omega) (by omega) (by omega) (by omega)⟩
/-- a write that the relation doesn't see -/
theorem zKM_6 {g : Nat → Nat → Int32} {tx : Nat → Nat} {L : Nat} {S : zK} (h : zKM g tx L S) {q : Nat} (v : Int32) (hq : q = 29 ∨ q = 30) : zKM (zv_w g 116 q v) tx L S := by
  have o : ∀ p, p ≠ q → zv_w g 116 q v 116 p = g 116 p := fun p hp => zw_other _ _ _ hp
  have c : zv_w g 116 q v 118 = g 118 := zw_cell _ _ _ (by decide)
  unfold zKM
  rw [o 2 (by omega), o 3 (by omega), o 4 (by omega), c, zw_cell _ _ _ (by decide)]
  exact h
theorem zKM_p {g : Nat → Nat → Int32} {tx : Nat → Nat} {L : Nat} {S : zK} (h : zKM g tx L S) (p : Nat) : zKM (zv_w g 116 3 (nI p)) tx L (zk_sp S p) := by
  obtain ⟨h1, h2, h3, h4, h5, h6, h7⟩ := h
  have c : zv_w g 116 3 (nI p) 118 = g 118 := zw_cell _ _ _ (by decide)
  refine ⟨(zw_other _ _ _ (by decide)).trans h1, fun k hk => (congrFun (zw_cell _ _ _ (by decide)) k).trans (h2 k hk), by rw [c]; exact h3, by rw [c]; exact h4, zw_same _ _ _ _, (zw_other _ _ _ (by decide)).trans h6, ?_⟩
  rw [c]
  exact h7
section SM
variable {dp : Nat} {g : Nat → Nat → Int32} {h : Nat → Nat → Int64} {tx : Nat → Nat} {L : Nat}
theorem ev_figure {p : Nat} (h2 : g 116 2 = nI L) (h3 : g 116 3 = nI p) (htx : ∀ k, k < L → g 117 k = nI (tx k)) (hL : L ≤ 90) (hb : ∀ k, k < L → tx k < 256) (hp : p ≤ L) {lo hi : Nat} (hlo : lo < 10) (hhi : hi < 10) : zv_ev (dp + 2) 140 [.ref 116, .int (nI lo), .int (nI hi)] zS0 (g, h) = (match zk_dg tx L p lo hi with
    | none => zo_i (-9) (g, h)
    | some v => zo_i (nI v) (zv_w g 116 3 (nI (p + 1)), h)) := by
  have hst := zd_X9_figure (zv_ev (dp + 1)) g h (nI lo) (nI hi)
  rw [h2, h3] at hst
  unfold zk_dg
  by_cases q : p < L
  · have ht := hb _ q
    obtain ⟨a1, -⟩ := zi_dgl _ ht lo hlo
    obtain ⟨-, a2⟩ := zi_dgl _ ht hi hhi
    rw [if_neg (fun z => by have := (nI_eq (by omega) (by omega)).mp z; omega), zi_in (n := 90) (by omega) (by decide), nI_clamp (by omega), htx p q, ev_in (dp := dp) (g, h), cond_true] at hst
    simp only [Option.bind_some] at hst
    have eqv : ((nI lo).toInt64 ≤ (nI (tx p) - 48).toInt64 ∧ (nI (tx p) - 48).toInt64 ≤ (nI hi).toInt64) ↔ (48 + lo ≤ tx p ∧ tx p ≤ 48 + hi) := by
      rw [zx_64, zx_64]
      constructor
      · rintro ⟨z1, z2⟩
        exact ⟨Nat.le_of_not_lt fun z => absurd (a1.mpr z) (Int32.not_lt.mpr z1), a2.mp z2⟩
      · rintro ⟨z1, z2⟩
        exact ⟨Int32.not_lt.mp fun z => by have := a1.mp z; omega, a2.mpr z2⟩
    by_cases q1 : 48 + lo ≤ tx p ∧ tx p ≤ 48 + hi
    · rw [if_pos (eqv.mpr q1), if_neg (show ¬ (1 : Int32) = 0 by decide), h3, nI_1, zw_same, nI_pred, zi_in (n := 90) (by omega) (by decide), nI_clamp (by omega), zw_cell _ _ _ (by decide), htx p q, show nI (tx p) - 48 = nI (tx p - 48) from pk_sub (a := tx p) (b := 48) (by omega), cond_true] at hst
      rw [if_pos ⟨q, q1⟩]
      exact zs_X9_figure hst
    · rw [if_neg (fun z => q1 (eqv.mp z)), if_pos rfl] at hst
      rw [if_neg (fun z => q1 z.2)]
      exact zs_X9_figure hst
  · rw [if_pos (by rw [show p = L by omega])] at hst
    rw [if_neg (fun z => q z.1)]
    exact zs_X9_figure hst
/-- how many others a router is not joined to -/
def zk_hc (w : Nat → Nat) (i : Nat) : Nat → Nat
  | 0 => 0
  | k + 1 => zk_hc w i k + (if zk_fr w i k = true then 1 else 0)
def zk_ac (w : Nat → Nat) (n : Nat) : Nat → Nat
  | 0 => 0
  | k + 1 => zk_ac w n k + zk_hc w k n
theorem zk_hc_hf (w : Nat → Nat) (i : Nat) : ∀ k, (zk_hc w i k = 0 ↔ zk_hf w i k = false) ∧ zk_hc w i k ≤ k := by
  intro k
  induction k with
  | zero => exact ⟨⟨fun _ => rfl, fun _ => rfl⟩, Nat.le_refl _⟩
  | succ k ih =>
    show ((zk_hc w i k + (if zk_fr w i k = true then 1 else 0) = 0) ↔ (zk_hf w i k || zk_fr w i k) = false) ∧ _
    cases hf : zk_fr w i k with
    | true =>
      refine ⟨⟨fun z => by simp at z, fun z => by simp at z⟩, ?_⟩
      show zk_hc w i k + (if zk_fr w i k = true then 1 else 0) ≤ _
      rw [hf]
      have := ih.2
      simp; omega
    | false =>
      refine ⟨?_, ?_⟩
      · simp only [Bool.or_false, Bool.false_eq_true, if_false, Nat.add_zero]; exact ih.1
      · show zk_hc w i k + (if zk_fr w i k = true then 1 else 0) ≤ _
        rw [hf]
        have := ih.2
        simp; omega
theorem zk_ac_af (w : Nat → Nat) (n : Nat) : ∀ k, (zk_ac w n k = 0 ↔ zk_af w n k = false) ∧ zk_ac w n k ≤ n * k := by
  intro k
  induction k with
  | zero => exact ⟨⟨fun _ => rfl, fun _ => rfl⟩, Nat.le_refl _⟩
  | succ k ih =>
    have hh := zk_hc_hf w k n
    constructor
    · show (zk_ac w n k + zk_hc w k n = 0) ↔ (zk_af w n k || zk_hf w k n) = false
      rw [Bool.or_eq_false_iff, ← ih.1, ← hh.1]
      omega
    · show zk_ac w n k + zk_hc w k n ≤ _
      have := ih.2
      have := hh.2
      rw [Nat.mul_succ]
      omega
theorem ev_apart {w : Nat → Nat} {n fr : Nat} (hn : g 118 0 = nI n) (h5 : n ≤ 5) (hf : fr ≤ 30) (hw : ∀ k, k < 25 → g 118 (fr + k) = nI (w k)) (h9 : ∀ k, w k ≤ 9) {i : Nat} (hi : i < 5) : zv_ev (dp + 2) 141 [.ref 116, .int (nI fr), .int (nI i)] zS0 (g, h) = zo_i (nI (zk_hc w i n)) (g, h) := by
  obtain ⟨-, -, r1⟩ := zl_up (σ := Unit) (fun k _ => zv_m zt_X9_apart (zv_ev (dp + 1)) false 5 [some (.ref 116), some (.int (nI fr)), some (.int (nI i)), some (.int (nI (zk_hc w i k))), some (.int (nI k))] [] zS0 (g, h)) n (fun _ _ => True) (by
    intro k _ hk _
    refine ⟨(), trivial, ?_⟩
    have := h9 (5 * i + k)
    have e1 := zd_X9_apart_5 (zv_ev (dp + 1)) g h (nI fr) (nI i) (nI (zk_hc w i k)) (nI k)
    rw [hn, if_neg (nI_ge hk (by omega)), ev_pair (dp := dp) (g, h), show (nI fr + ((5 : Int32) * nI i)) + nI k = nI (fr + (5 * i + k)) by rw [show (5 : Int32) = nI 5 from rfl, pk_mul, nI_add, nI_add, Nat.add_assoc]] at e1
    simp only [Option.bind_some] at e1
    rw [zi_in (n := 101) (by omega) (by decide), nI_clamp (by omega), hw _ (by omega), cond_true, nI_1, nI_1, Int32.add_zero] at e1
    show _ = zv_m zt_X9_apart (zv_ev (dp + 1)) false 5 [some (.ref 116), some (.int (nI fr)), some (.int (nI i)), some (.int (nI (zk_hc w i k + (if zk_fr w i k = true then 1 else 0)))), some (.int (nI (k + 1)))] [] zS0 (g, h)
    unfold zk_fr
    by_cases q : k = i
    · rw [if_pos (by rw [q])] at e1
      rw [if_neg (by simp [q]), Nat.add_zero]
      exact e1
    · rw [if_neg (fun z => q ((nI_eq (by omega) (by omega)).mp z))] at e1
      have q' : i ≠ k := fun z => q z.symm
      by_cases q2 : w (5 * i + k) = 0
      · rw [if_pos ((zi_0 (by omega)).mpr q2)] at e1
        rw [if_pos (by simp [q', q2])]
        exact e1
      · rw [if_neg (fun z => q2 ((zi_0 (by omega)).mp z))] at e1
        rw [if_neg (by simp [q2]), Nat.add_zero]
        exact e1) () trivial
  refine zs_X9_apart ((zd_X9_apart _ g h _ _).trans (r1.trans ?_))
  rw [zd_X9_apart_5, hn, if_pos (nI_le (Nat.le_refl _) (by omega))]
theorem ev_isAnyApart {w : Nat → Nat} {n fr : Nat} (hn : g 118 0 = nI n) (h5 : n ≤ 5) (hf : fr ≤ 30) (hw : ∀ k, k < 25 → g 118 (fr + k) = nI (w k)) (h9 : ∀ k, w k ≤ 9) : zv_ev (dp + 3) 142 [.ref 116, .int (nI fr)] zS0 (g, h) = zo_i (if zk_af w n n = true then 1 else 0) (g, h) := by
  obtain ⟨-, -, r1⟩ := zl_up (σ := Unit) (fun k _ => zv_m zt_X9_isAnyApart (zv_ev (dp + 2)) true 4 [some (.ref 116), some (.int (nI fr)), some (.int (nI (zk_ac w n k))), some (.int (nI k))] [] zS0 (g, h)) n (fun _ _ => True) (by
    intro k _ hk _
    refine ⟨(), trivial, ?_⟩
    have e1 := zd_X9_isAnyApart_4 (zv_ev (dp + 2)) g h (nI fr) (nI (zk_ac w n k)) (nI k)
    rw [hn, if_neg (nI_ge hk (by omega)), ev_apart (dp := dp) (h := h) hn h5 hf hw h9 (by omega)] at e1
    simp only [Option.bind_some] at e1
    rw [nI_add, nI_1] at e1
    exact e1) () trivial
  have hac := zk_ac_af w n n
  have hnn : n * n ≤ 5 * 5 := Nat.mul_le_mul h5 h5
  refine zs_X9_isAnyApart ((zd_X9_isAnyApart _ g h _).trans (r1.trans ?_))
  rw [zd_X9_isAnyApart_4, hn, if_pos (nI_le (Nat.le_refl _) (by omega))]
  cases hf : zk_af w n n with
  | true =>
    rw [if_neg (fun z => by have := hac.1.mp ((zi_le0 (by omega)).mp z); rw [hf] at this; exact Bool.noConfusion this), if_pos rfl]
  | false =>
    rw [if_pos ((zi_le0 (by omega)).mpr (hac.1.mpr hf))]
    rfl
/-- two routers, read behind the letter at p -/
theorem ev_readTwo {S : zK} {w : Nat → Nat} {fr p : Nat} (hK : zKM g tx L S) (h5 : S.1.1 ≤ 5) (h1 : 1 ≤ S.1.1) (hpp : S.1.2.2.1 = p + 1) (hL : L ≤ 90) (hb : ∀ k, k < L → tx k < 256) (hp : p < L) (hf : fr ≤ 30) (haf : zk_af w S.1.1 S.1.1 = true) (hw : ∀ (g' : Nat → Nat → Int32) (S' : zK), zKM g' tx L S' → S'.2 = S.2 → ∀ k, k < 25 → g' 118 (fr + k) = nI (w k)) (h9 : ∀ k, w k ≤ 9) : ∃ g', zFm g g' ∧ g' 118 = g 118 ∧ g' 116 4 = g 116 4 ∧ (match zk_tw tx L w S.1.1 p with | .inl e => g' 116 3 = nI e | .inr q => g' 116 3 = nI (p + 3) ∧ g' 116 29 = nI q.1 ∧ g' 116 30 = nI q.2) ∧ zv_ev (dp + 3) 143 [.ref 116, .int (nI fr)] zS0 (g, h) = zo_i (match zk_tw tx L w S.1.1 p with | .inl _ => 0 | .inr _ => 1) (g', h) := by
  have hn := hK.2.2.1
  have hn1 : nI S.1.1 - 1 = nI (S.1.1 - 1) := pk_sub (a := S.1.1) (b := 1) h1
  have h3 : g 116 3 = nI (p + 1) := by rw [← hpp]; exact hK.2.2.2.2.1
  have hst := zd_X9_readTwo (zv_ev (dp + 2)) g h (nI fr)
  have d1 := ev_figure (dp := dp) (h := h) (lo := 0) (hi := S.1.1 - 1) hK.1 h3 hK.2.1 hL hb (by omega) (by decide) (by omega)
  have d1' : zv_ev (dp + 2) 140 [.ref 116, .int 0, .int (nI (S.1.1 - 1))] zS0 (g, h) = _ := d1
  rw [hn, hn1, d1'] at hst
  unfold zk_tw
  rw [if_pos haf]
  cases hd1 : zk_dg tx L (p + 1) 0 (S.1.1 - 1) with
  | none =>
    rw [hd1] at hst
    simp only [Option.bind_some] at hst
    rw [zw_same, if_pos rfl] at hst
    exact ⟨_, zFm_6 _ _ (by decide), zw_cell _ _ _ (by decide), zw_other _ _ _ (by decide), (zw_other _ _ _ (by decide)).trans h3, zs_X9_readTwo hst⟩
  | some i =>
    rw [hd1] at hst
    have li := zk_dg_le hd1
    simp only [Option.bind_some] at hst
    have K1 := zKM_6 (zKM_p hK (p + 1 + 1)) (q := 29) (nI i) (by decide)
    have F1 : zFm g (zv_w (zv_w g 116 3 (nI (p + 1 + 1))) 116 29 (nI i)) := zFm_trans (zFm_6 _ _ (by decide)) (zFm_6 _ _ (by decide))
    have c1 : zv_w (zv_w g 116 3 (nI (p + 1 + 1))) 116 29 (nI i) 118 = g 118 := (zw_cell _ _ _ (by decide)).trans (zw_cell _ _ _ (by decide))
    have q1 : zv_w (zv_w g 116 3 (nI (p + 1 + 1))) 116 29 (nI i) 116 4 = g 116 4 := (zw_other _ _ _ (by decide)).trans (zw_other _ _ _ (by decide))
    have n1 : zv_w (zv_w g 116 3 (nI (p + 1 + 1))) 116 29 (nI i) 118 0 = nI S.1.1 := K1.2.2.1
    rw [zw_same, if_neg (zi_ne9 (by omega)), ev_apart (dp := dp) (h := h) (fr := fr) (w := w) n1 h5 hf (hw _ _ K1 rfl) h9 (by omega)] at hst
    simp only [Option.bind_some] at hst
    have hc := zk_hc_hf w i S.1.1
    dsimp only
    by_cases qh : zk_hf w i S.1.1 = true
    · rw [if_neg (fun z => by have := hc.1.mp ((zi_0 (by omega)).mp z); rw [qh] at this; exact Bool.noConfusion this), n1, hn1] at hst
      rw [if_pos qh]
      have p3 : zv_w (zv_w g 116 3 (nI (p + 1 + 1))) 116 29 (nI i) 116 3 = nI (p + 2) := K1.2.2.2.2.1
      have d2 := ev_figure (dp := dp) (h := h) (lo := 0) (hi := S.1.1 - 1) K1.1 p3 K1.2.1 hL hb (by omega) (by decide) (by omega)
      have d2' : zv_ev (dp + 2) 140 [.ref 116, .int 0, .int (nI (S.1.1 - 1))] zS0 (zv_w (zv_w g 116 3 (nI (p + 1 + 1))) 116 29 (nI i), h) = _ := d2
      rw [d2'] at hst
      cases hd2 : zk_dg tx L (p + 2) 0 (S.1.1 - 1) with
      | none =>
        rw [hd2] at hst
        simp only [Option.bind_some] at hst
        rw [zw_same, if_pos rfl] at hst
        exact ⟨_, zFm_trans F1 (zFm_6 _ _ (by decide)), (zw_cell _ _ _ (by decide)).trans c1, (zw_other _ _ _ (by decide)).trans q1, (zw_other _ _ _ (by decide)).trans p3, zs_X9_readTwo hst⟩
      | some j =>
        rw [hd2] at hst
        have lj := zk_dg_le hd2
        simp only [Option.bind_some] at hst
        generalize hs2 : zv_w (zv_w g 116 3 (nI (p + 1 + 1))) 116 29 (nI i) = s at hst K1 F1 c1 q1 n1 p3
        have i29 : s 116 29 = nI i := by rw [← hs2]; exact zw_same _ _ _ _
        have K2 := zKM_6 (zKM_p K1 (p + 2 + 1)) (q := 30) (nI j) (by decide)
        have F2 : zFm g (zv_w (zv_w s 116 3 (nI (p + 2 + 1))) 116 30 (nI j)) := zFm_trans F1 (zFm_trans (zFm_6 _ _ (by decide)) (zFm_6 _ _ (by decide)))
        have c2 : zv_w (zv_w s 116 3 (nI (p + 2 + 1))) 116 30 (nI j) 118 = g 118 := (zw_cell _ _ _ (by decide)).trans ((zw_cell _ _ _ (by decide)).trans c1)
        have q2 : zv_w (zv_w s 116 3 (nI (p + 2 + 1))) 116 30 (nI j) 116 4 = g 116 4 := (zw_other _ _ _ (by decide)).trans ((zw_other _ _ _ (by decide)).trans q1)
        have i2 : zv_w (zv_w s 116 3 (nI (p + 2 + 1))) 116 30 (nI j) 116 29 = nI i := (zw_other _ _ _ (by decide)).trans ((zw_other _ _ _ (by decide)).trans i29)
        have j2 : zv_w (zv_w s 116 3 (nI (p + 2 + 1))) 116 30 (nI j) 116 30 = nI j := zw_same _ _ _ _
        have p2 : zv_w (zv_w s 116 3 (nI (p + 2 + 1))) 116 30 (nI j) 116 3 = nI (p + 2 + 1) := K2.2.2.2.2.1
        have w2 := hw _ _ K2 rfl (5 * i + j) (by omega)
        rw [j2, i2, p2, nI_pred, if_neg (zi_ne9 (by omega)), ev_pair (dp := dp + 1), show (nI fr + ((5 : Int32) * nI i)) + nI j = nI (fr + (5 * i + j)) by rw [show (5 : Int32) = nI 5 from rfl, pk_mul, nI_add, nI_add, Nat.add_assoc]] at hst
        simp only [Option.bind_some] at hst
        have := h9 (5 * i + j)
        rw [zi_in (n := 101) (by omega) (by decide), nI_clamp (by omega), w2, p2, nI_pred, cond_true] at hst
        dsimp only
        unfold zk_fr
        by_cases qij : j = i
        · rw [if_pos (by rw [qij])] at hst
          rw [if_neg (by simp [qij])]
          exact ⟨_, zFm_trans F2 (zFm_6 _ _ (by decide)), (zw_cell _ _ _ (by decide)).trans c2, (zw_other _ _ _ (by decide)).trans q2, zw_same _ _ _ _, zs_X9_readTwo hst⟩
        · have qij' : i ≠ j := fun z => qij z.symm
          rw [if_neg (fun z => qij ((nI_eq (by omega) (by omega)).mp z))] at hst
          by_cases qw : w (5 * i + j) = 0
          · rw [if_pos ((zi_le0 (by omega)).mpr qw)] at hst
            rw [if_pos (by simp [qij', qw])]
            exact ⟨_, F2, c2, q2, ⟨p2, i2, j2⟩, zs_X9_readTwo hst⟩
          · rw [if_neg (fun z => qw ((zi_le0 (by omega)).mp z))] at hst
            rw [if_neg (by simp [qw])]
            exact ⟨_, zFm_trans F2 (zFm_6 _ _ (by decide)), (zw_cell _ _ _ (by decide)).trans c2, (zw_other _ _ _ (by decide)).trans q2, zw_same _ _ _ _, zs_X9_readTwo hst⟩
    · have hz : zk_hc w i S.1.1 = 0 := hc.1.mpr (by simpa using qh)
      rw [if_pos ((zi_0 (by omega)).mpr hz), show zv_w (zv_w g 116 3 (nI (p + 1 + 1))) 116 29 (nI i) 116 3 = nI (p + 1 + 1) from K1.2.2.2.2.1, nI_pred] at hst
      rw [if_neg qh]
      exact ⟨_, zFm_trans F1 (zFm_6 _ _ (by decide)), (zw_cell _ _ _ (by decide)).trans c1, (zw_other _ _ _ (by decide)).trans q1, zw_same _ _ _ _, zs_X9_readTwo hst⟩
end SM
