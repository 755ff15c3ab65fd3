/-! ===== what both sides stand for ===== -/
/-- plan, state, choices; text, its length; earlier ones, how many; kept ones, which; what was seen, how many; the random number -/
abbrev zZ : Type := (zT × zX × zA) × ((Nat → Nat) × Nat) × ((Nat → zX × zA) × Nat) × ((Nat → zX × zA) × (Nat → Bool)) × ((Nat → Nat) × (Nat → Nat) × (Nat → Nat) × Nat) × Int64
def zOK (Z : zZ) : Prop := (zT_ok Z.1.1 ∧ zX_ok Z.1.1 Z.1.2.1 ∧ za_W Z.1.1 Z.1.2.2) ∧ (Z.2.1.2 ≤ 90 ∧ (∀ k, k < Z.2.1.2 → Z.2.1.1 k < 256) ∧ ∀ e, e < 4 → Z.2.1.1 (100 + e) < 5 ∧ Z.2.1.1 (104 + e) ≤ 2 ∧ Z.2.1.1 (108 + e) ≤ 5 ∧ Z.2.1.1 (112 + e) ≤ 5) ∧ (Z.2.2.1.2 ≤ 14 ∧ ∀ i, i < Z.2.2.1.2 → zX_ok Z.1.1 (Z.2.2.1.1 i).1 ∧ za_W Z.1.1 (Z.2.2.1.1 i).2) ∧ (∀ s, s < 2 → Z.2.2.2.1.2 s = true → zX_ok Z.1.1 (Z.2.2.2.1.1 s).1 ∧ za_W Z.1.1 (Z.2.2.2.1.1 s).2) ∧ (Z.2.2.2.2.1.2.2.2 ≤ 6 ∧ ∀ k, k < Z.2.2.2.2.1.2.2.2 → Z.2.2.2.2.1.1 k < 5 ∧ Z.2.2.2.2.1.2.1 k < 4 ∧ Z.2.2.2.2.1.2.2.1 k < 2)
/-- the text; behind it, from 100 on, what the last scan left of exits -/
def zb2 (g : Nat → Nat → Int32) (t : (Nat → Nat) × Nat) : Prop := g 1 1 = nI t.2 ∧ (∀ k, k < t.2 → g 2 k = nI (t.1 k)) ∧ ∀ e, e < 4 → g 5 e = nI (t.1 (100 + e)) ∧ g 6 e = nI (t.1 (104 + e)) ∧ g 7 e = nI (t.1 (108 + e)) ∧ g 8 e = nI (t.1 (112 + e))
def zb3 (g : Nat → Nat → Int32) (t : (Nat → zX × zA) × Nat) : Prop := ∃ nx, nx ≤ 14 ∧ g 44 0 = nI t.2 ∧ g 44 1 = nI nx ∧ ∀ i, i < t.2 → zC_X (46 + 4 * ((nx + 13 - i) % 14)) g (t.1 i).1 (t.1 i).2
def zb4 (g : Nat → Nat → Int32) (t : (Nat → zX × zA) × (Nat → Bool)) : Prop := ∀ s, s < 2 → g 111 s = (if t.2 s = true then 1 else 0) ∧ (t.2 s = true → zC_X (103 + 4 * s) g (t.1 s).1 (t.1 s).2)
def zb5 (g : Nat → Nat → Int32) (t : (Nat → Nat) × (Nat → Nat) × (Nat → Nat) × Nat) : Prop := g 112 0 = nI t.2.2.2 ∧ ∀ k, k < t.2.2.2 → g 113 k = nI (t.1 k) ∧ g 114 k = nI (t.2.1 k) ∧ g 115 k = nI (t.2.2.1 k)
def zBC (g : Nat → Nat → Int32) (h : Nat → Nat → Int64) (Z : zZ) : Prop := zC 16 g Z.1.1 Z.1.2.1 Z.1.2.2 ∧ zb2 g Z.2.1 ∧ zb3 g Z.2.2.1 ∧ zb4 g Z.2.2.2.1 ∧ zb5 g Z.2.2.2.2.1 ∧ h 0 10 = Z.2.2.2.2.2
def zm2 (g : Nat → Nat → Int32) (t : (Nat → Nat) × Nat) : Prop := g 116 2 = nI t.2 ∧ ∀ k, k < t.2 → g 117 k = nI (t.1 k)
def zm3 (g : Nat → Nat → Int32) (T : zT) (t : (Nat → zX × zA) × Nat) : Prop := g 116 10 = nI t.2 ∧ ∀ i, i < t.2 → zM_R (fun k => g 122 (101 * (t.2 - 1 - i) + k)) T (t.1 i).1 (t.1 i).2
def zm4 (g : Nat → Nat → Int32) (T : zT) (t : (Nat → zX × zA) × (Nat → Bool)) : Prop := ∀ s, s < 2 → g 124 s = (if t.2 s = true then 1 else 0) ∧ (t.2 s = true → zM_R (fun k => g 123 (101 * s + k)) T (t.1 s).1 (t.1 s).2)
def zm5 (g : Nat → Nat → Int32) (t : (Nat → Nat) × (Nat → Nat) × (Nat → Nat) × Nat) : Prop := g 116 13 = nI t.2.2.2 ∧ ∀ k, k < t.2.2.2 → g 125 k = nI (t.1 k) ∧ g 126 k = nI (t.2.1 k) ∧ g 127 k = nI (t.2.2.1 k)
def zBM (g : Nat → Nat → Int32) (h : Nat → Nat → Int64) (Z : zZ) : Prop := zM_R (g 119) Z.1.1 Z.1.2.1 Z.1.2.2 ∧ zm2 g Z.2.1 ∧ zm3 g Z.1.1 Z.2.2.1 ∧ zm4 g Z.1.1 Z.2.2.2.1 ∧ zm5 g Z.2.2.2.2.1 ∧ h 116 17 = Z.2.2.2.2.2
/-- a call of the class, a call of the reference -/
def zCl (k : Nat) (As : List Value) (Z : zZ) (v : zv_R) (Z' : zZ) : Prop := ∀ g h, zBC g h Z → ∃ g' h', zBC g' h' Z' ∧ (∀ x, 116 ≤ x → g' x = g x ∧ h' x = h x) ∧ zv_ev 11 k (.ref 0 :: As) zS0 (g, h) = some (v, (g', h'))
def zMd (k : Nat) (As : List Value) (Z : zZ) (v : zv_R) (Z' : zZ) : Prop := ∀ g h, zBM g h Z → ∃ g' h', zBM g' h' Z' ∧ (∀ x, x < 116 → g' x = g x ∧ h' x = h x) ∧ zv_ev 11 k (.ref 116 :: As) zS0 (g, h) = some (v, (g', h'))
def zGo (kc km : Nat) (As : List Value) : Prop := ∀ Z, zOK Z → ∃ v Z', zOK Z' ∧ zCl kc As Z v Z' ∧ zMd km As Z v Z'
/-! frames -/
theorem zb2_of {g g' : Nat → Nat → Int32} {t : (Nat → Nat) × Nat} (h : zb2 g t) (h1 : g' 1 1 = g 1 1) (h2 : g' 2 = g 2) (h3 : ∀ x, 5 ≤ x → x ≤ 8 → g' x = g x) : zb2 g' t := by
  refine ⟨h1.trans h.1, fun k hk => (congrFun h2 k).trans (h.2.1 k hk), fun e he => ?_⟩
  rw [h3 5 (by decide) (by decide), h3 6 (by decide) (by decide), h3 7 (by decide) (by decide), h3 8 (by decide) (by decide)]
  exact h.2.2 e he
theorem zb3_of {g g' : Nat → Nat → Int32} {t : (Nat → zX × zA) × Nat} (h : zb3 g t) (h2 : ∀ x, 44 ≤ x → x ≤ 101 → g' x = g x) : zb3 g' t := by
  obtain ⟨nx, a, b, c, d⟩ := h
  exact ⟨nx, a, (congrFun (h2 44 (by decide) (by decide)) 0).trans b, (congrFun (h2 44 (by decide) (by decide)) 1).trans c, fun i hi => zC_X_of (d i hi) (fun x h3 h4 => h2 x (by omega) (by omega))⟩
theorem zb4_of {g g' : Nat → Nat → Int32} {t : (Nat → zX × zA) × (Nat → Bool)} (h : zb4 g t) (h2 : ∀ x, 103 ≤ x → x ≤ 111 → g' x = g x) : zb4 g' t := fun s hs => ⟨(congrFun (h2 111 (by decide) (by decide)) s).trans (h s hs).1, fun q => zC_X_of ((h s hs).2 q) (fun x h3 h4 => h2 x (by omega) (by omega))⟩
theorem zb5_of {g g' : Nat → Nat → Int32} {t : (Nat → Nat) × (Nat → Nat) × (Nat → Nat) × Nat} (h : zb5 g t) (h2 : ∀ x, 112 ≤ x → x ≤ 115 → g' x = g x) : zb5 g' t := by
  have e1 := h2 112 (by decide) (by decide)
  have e2 := h2 113 (by decide) (by decide)
  have e3 := h2 114 (by decide) (by decide)
  have e4 := h2 115 (by decide) (by decide)
  unfold zb5
  rw [e1, e2, e3, e4]
  exact h
/-- a query of the class -/
theorem zBC_q {g g' : Nat → Nat → Int32} {h : Nat → Nat → Int64} {Z : zZ} (hB : zBC g h Z) (hC : zC 16 g' Z.1.1 Z.1.2.1 Z.1.2.2) (hf : ∀ x, x < 9 ∨ 43 < x → g' x = g x) : zBC g' h Z := ⟨hC, zb2_of hB.2.1 (congrFun (hf 1 (by decide)) 1) (hf 2 (by decide)) (fun x h1 h2 => hf x (by omega)), zb3_of hB.2.2.1 (fun x h1 h2 => hf x (by omega)), zb4_of hB.2.2.2.1 (fun x h1 h2 => hf x (by omega)), zb5_of hB.2.2.2.2.1 (fun x h1 h2 => hf x (by omega)), hB.2.2.2.2.2⟩
/-- one that only tries -/
theorem zBC_t {g g' : Nat → Nat → Int32} {h : Nat → Nat → Int64} {Z : zZ} (hB : zBC g h Z) (hF : zF 27 43 g g') : zBC g' h Z := zBC_q hB (zC_F hB.1 hF (by decide) (by decide)) (fun x hx => hF x (by omega))
/-- an act on the live one, the past apart -/
theorem zBC_a {g g' : Nat → Nat → Int32} {h : Nat → Nat → Int64} {Z : zZ} {X : zX} {A : zA} (hB : zBC g h Z) (hC : zC 16 g' Z.1.1 X A) (hF : zF 16 26 g g') : zBC g' h ((Z.1.1, X, A), Z.2) := ⟨hC, zb2_of hB.2.1 (congrFun (hF 1 (by decide)) 1) (hF 2 (by decide)) (fun x h1 h2 => hF x (by omega)), zb3_of hB.2.2.1 (fun x h1 h2 => hF x (by omega)), zb4_of hB.2.2.2.1 (fun x h1 h2 => hF x (by omega)), zb5_of hB.2.2.2.2.1 (fun x h1 h2 => hF x (by omega)), hB.2.2.2.2.2⟩
theorem zm2_of {g g' : Nat → Nat → Int32} {t : (Nat → Nat) × Nat} (h : zm2 g t) (h1 : g' 116 2 = g 116 2) (h2 : g' 117 = g 117) : zm2 g' t := ⟨h1.trans h.1, fun k hk => (congrFun h2 k).trans (h.2 k hk)⟩
theorem zm3_of {g g' : Nat → Nat → Int32} {T : zT} {t : (Nat → zX × zA) × Nat} (h : zm3 g T t) (h1 : g' 116 10 = g 116 10) (h2 : g' 122 = g 122) : zm3 g' T t := by
  refine ⟨h1.trans h.1, ?_⟩
  rw [h2]
  exact h.2
theorem zm4_of {g g' : Nat → Nat → Int32} {T : zT} {t : (Nat → zX × zA) × (Nat → Bool)} (h : zm4 g T t) (h1 : g' 123 = g 123) (h2 : g' 124 = g 124) : zm4 g' T t := by
  unfold zm4
  rw [h1, h2]
  exact h
theorem zm5_of {g g' : Nat → Nat → Int32} {t : (Nat → Nat) × (Nat → Nat) × (Nat → Nat) × Nat} (h : zm5 g t) (h1 : g' 116 13 = g 116 13) (h2 : ∀ x, 125 ≤ x → x ≤ 127 → g' x = g x) : zm5 g' t := by
  have e2 := h2 125 (by decide) (by decide)
  have e3 := h2 126 (by decide) (by decide)
  have e4 := h2 127 (by decide) (by decide)
  unfold zm5
  rw [h1, e2, e3, e4]
  exact h
/-- what a query of the reference may change -/
def zN (g g' : Nat → Nat → Int32) : Prop := (∀ x, x < 116 ∨ x = 117 ∨ x = 119 ∨ (121 < x ∧ x < 128) → g' x = g x) ∧ ∀ q, q = 2 ∨ q = 10 ∨ q = 13 → g' 116 q = g 116 q
theorem zN_refl (g : Nat → Nat → Int32) : zN g g := ⟨fun _ _ => rfl, fun _ _ => rfl⟩
theorem zN_trans {g1 g2 g3 : Nat → Nat → Int32} (h1 : zN g1 g2) (h2 : zN g2 g3) : zN g1 g3 := ⟨fun x hx => (h2.1 x hx).trans (h1.1 x hx), fun q hq => (h2.2 q hq).trans (h1.2 q hq)⟩
theorem zN_P {g g' : Nat → Nat → Int32} (h : zP g g') : zN g g' := ⟨fun x hx => h.1 x (by omega) (by omega) (by omega) (by omega) (by omega) (by omega) (by omega) (by omega), fun q hq => h.2 q (by omega)⟩
theorem zN_c {g g' : Nat → Nat → Int32} (h : ∀ x, x < 118 ∨ x = 119 ∨ (121 < x ∧ x < 128) → g' x = g x) : zN g g' := ⟨fun x hx => h x (by omega), fun q _ => congrFun (h 116 (by decide)) q⟩
theorem zN_w (g : Nat → Nat → Int32) {q : Nat} (v : Int32) (h : q ≠ 2 ∧ q ≠ 10 ∧ q ≠ 13) : zN g (zv_w g 116 q v) := ⟨fun x hx => zw_cell _ _ _ (by omega), fun p hp => zw_other _ _ _ (by omega)⟩
theorem zBM_q {g g' : Nat → Nat → Int32} {h : Nat → Nat → Int64} {Z : zZ} (hB : zBM g h Z) (hN : zN g g') : zBM g' h Z := ⟨by rw [hN.1 119 (by decide)]; exact hB.1, zm2_of hB.2.1 (hN.2 2 (by decide)) (hN.1 117 (by decide)), zm3_of hB.2.2.1 (hN.2 10 (by decide)) (hN.1 122 (by decide)), zm4_of hB.2.2.2.1 (hN.1 123 (by decide)) (hN.1 124 (by decide)), zm5_of hB.2.2.2.2.1 (hN.2 13 (by decide)) (fun x h1 h2 => hN.1 x (by omega)), hB.2.2.2.2.2⟩
theorem zBM_0 {g : Nat → Nat → Int32} {h : Nat → Nat → Int64} {Z : zZ} (hB : zBM g h Z) : zBM (zv_w g 116 0 0) h Z := zBM_q hB (zN_w _ _ (by decide))
theorem zN_0 (g : Nat → Nat → Int32) : zN g (zv_w g 116 0 0) := zN_w _ _ (by decide)
/-- queries, said -/
theorem zCl_q {k : Nat} {As : List Value} {Z : zZ} {v : zv_R} (H : ∀ g h, zBC g h Z → ∃ g', zC 16 g' Z.1.1 Z.1.2.1 Z.1.2.2 ∧ (∀ x, x < 9 ∨ 43 < x → g' x = g x) ∧ zv_ev 11 k (.ref 0 :: As) zS0 (g, h) = some (v, (g', h))) : zCl k As Z v Z := by
  intro g h hB
  obtain ⟨g', c, f, r⟩ := H g h hB
  exact ⟨g', h, zBC_q hB c f, fun x hx => ⟨f x (by omega), rfl⟩, r⟩
theorem zCl_t {k : Nat} {As : List Value} {Z : zZ} {v : zv_R} (H : ∀ g h, zBC g h Z → ∃ g', zF 27 43 g g' ∧ zv_ev 11 k (.ref 0 :: As) zS0 (g, h) = some (v, (g', h))) : zCl k As Z v Z := by
  intro g h hB
  obtain ⟨g', f, r⟩ := H g h hB
  exact ⟨g', h, zBC_t hB f, fun x hx => ⟨f x (by omega), rfl⟩, r⟩
theorem zMd_q {k : Nat} {As : List Value} {Z : zZ} {v : zv_R} (H : ∀ g h, zBM g h Z → ∃ g', zN g g' ∧ zv_ev 11 k (.ref 116 :: As) zS0 (g, h) = some (v, (g', h))) : zMd k As Z v Z := by
  intro g h hB
  obtain ⟨g', f, r⟩ := H g h hB
  exact ⟨g', h, zBM_q hB f, fun x hx => ⟨f.1 x (by omega), rfl⟩, r⟩
/-- ranges of the reference -/
theorem zx_rng {n : Nat} (a : Int32) (hn : n < 2 ^ 31) : (if (0 : Int64) ≤ a.toInt64 ∧ a.toInt64 ≤ lN n then (1 : Int32) else 0) = if zv_in a (n + 1) = true then 1 else 0 := by
  have e : ((0 : Int64) ≤ a.toInt64 ∧ a.toInt64 ≤ lN n) ↔ (0 ≤ a ∧ a ≤ nI n) := by
    rw [← nI_l hn]
    exact and_congr (zx_64 0 a) (zx_64 a (nI n))
  by_cases hb : zv_in a (n + 1) = true
  · rw [if_pos hb]
    obtain ⟨j, hj, rfl⟩ := zi_of hb
    rw [if_pos (e.mpr ⟨nI_pos' (by omega), nI_le (by omega) hn⟩)]
  · rw [if_neg hb, if_neg]
    intro q
    obtain ⟨q1, q2⟩ := e.mp q
    obtain ⟨j, hj, rfl⟩ := nI_of (Int32.not_lt.mpr q1)
    exact hb (by
      unfold zv_in
      rw [nI_clamp hj]
      have := (nI_leI hj hn).mp q2
      have hp := nI_pos (n := j) hj
      simp [hp]
      omega)
theorem ev_inr {dp : Nat} (Dm : zv_D) (n : Nat) (a : Int32) (c : Int64) (hc : c = lN n) (hn : n < 2 ^ 31) : zv_ev (dp + 1) 129 [.long a.toInt64, .long 0, .long c] zS0 Dm = zo_i (if zv_in a (n + 1) = true then 1 else 0) Dm := by
  rw [ev_in, hc, zx_rng a hn]
/-- ranges of the class: below 0 or above n -/
theorem zi_rng {a : Int32} {n : Nat} (hn : n < 2 ^ 31 - 1) (m : Int32) (hm : nI n = m) : (¬ zv_in a (n + 1) = true ∧ (a < 0 ∨ (¬ a < 0 ∧ ¬ a ≤ m ∧ m < a))) ∨ ∃ k, k ≤ n ∧ a = nI k ∧ ¬ a < 0 ∧ a ≤ m ∧ ¬ m < a ∧ zv_in a (n + 1) = true := by
  subst hm
  by_cases hb : zv_in a (n + 1) = true
  · obtain ⟨k, hk, rfl⟩ := zi_of hb
    exact Or.inr ⟨k, by omega, rfl, nI_pos (by omega), nI_le (by omega) (by omega), nI_nlt (by omega) (by omega), hb⟩
  · refine Or.inl ⟨hb, ?_⟩
    by_cases h0 : a < 0
    · exact Or.inl h0
    · obtain ⟨j, hj, rfl⟩ := nI_of h0
      have hjn : n < j := Nat.not_le.mp (fun q => hb (zi_in (by omega) (by omega)))
      exact Or.inr ⟨h0, nI_ge hjn hj, nI_lt hjn hj⟩
