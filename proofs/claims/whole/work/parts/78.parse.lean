/-! ===== the text read ===== -/
abbrev zK : Type := (Nat × Nat × Nat × Nat) × (Nat → Nat) × (Nat → Nat) × (Nat → Nat) × (Nat → Nat) × (Nat → Nat) × (Nat → Nat)
def zk_sp (S : zK) (p : Nat) : zK := ((S.1.1, S.1.2.1, p, S.1.2.2.2), S.2)
def zk_dg (tx : Nat → Nat) (L p lo hi : Nat) : Option Nat := if p < L ∧ 48 + lo ≤ tx p ∧ tx p ≤ 48 + hi then some (tx p - 48) else none
def zk_fr (w : Nat → Nat) (i j : Nat) : Bool := decide (i ≠ j) && decide (w (5 * i + j) = 0)
def zk_hf (w : Nat → Nat) (i : Nat) : Nat → Bool
  | 0 => false
  | k + 1 => zk_hf w i k || zk_fr w i k
def zk_af (w : Nat → Nat) (n : Nat) : Nat → Bool
  | 0 => false
  | k + 1 => zk_af w n k || zk_hf w k n
def zk_tw (tx : Nat → Nat) (L : Nat) (w : Nat → Nat) (n p : Nat) : Nat ⊕ (Nat × Nat) :=
  if zk_af w n n = true then
    match zk_dg tx L (p + 1) 0 (n - 1) with
    | none => .inl (p + 1)
    | some i => if zk_hf w i n = true then
        match zk_dg tx L (p + 2) 0 (n - 1) with
        | none => .inl (p + 2)
        | some j => if zk_fr w i j = true then .inr (i, j) else .inl (p + 2)
      else .inl (p + 1)
  else .inl p
def zk_pu (w : Nat → Nat) (i j a b : Nat) : Nat → Nat := fun k => if k = 5 * j + i then b else if k = 5 * i + j then a else w k
def zk_up (w : Nat → Nat) (e v : Nat) : Nat → Nat := fun k => if k = e then v else w k
def zk_li (tx : Nat → Nat) (L : Nat) (S : zK) : Bool × zK := match zk_tw tx L S.2.1 S.1.1 S.1.2.2.1 with
  | .inl e => (false, zk_sp S e)
  | .inr q => match zk_dg tx L (S.1.2.2.1 + 3) 1 9 with
    | none => (false, zk_sp S (S.1.2.2.1 + 3))
    | some v => (true, ((S.1.1, S.1.2.1, S.1.2.2.1 + 4, S.1.2.2.2), zk_pu S.2.1 q.1 q.2 v v, S.2.2))
def zk_se (tx : Nat → Nat) (L : Nat) (S : zK) (a b : Nat) : Bool × zK := match zk_tw tx L S.2.2.1 S.1.1 S.1.2.2.1 with
  | .inl e => (false, zk_sp S e)
  | .inr q => (true, ((S.1.1, S.1.2.1, S.1.2.2.1 + 3, S.1.2.2.2), S.2.1, zk_pu S.2.2.1 q.1 q.2 a b, S.2.2.2))
def zk_ex (tx : Nat → Nat) (L : Nat) (S : zK) : Bool × zK :=
  if S.1.2.1 < 4 then
    match zk_dg tx L (S.1.2.2.1 + 1) 0 (S.1.1 - 1) with
    | none => (false, zk_sp S (S.1.2.2.1 + 1))
    | some r => match zk_dg tx L (S.1.2.2.1 + 2) 0 2 with
      | none => (false, zk_sp S (S.1.2.2.1 + 2))
      | some x => match zk_dg tx L (S.1.2.2.1 + 3) 1 5 with
        | none => (false, zk_sp S (S.1.2.2.1 + 3))
        | some y => match zk_dg tx L (S.1.2.2.1 + 4) 0 5 with
          | none => (false, zk_sp S (S.1.2.2.1 + 4))
          | some z => (true, ((S.1.1, S.1.2.1 + 1, S.1.2.2.1 + 5, S.1.2.2.2), S.2.1, S.2.2.1, zk_up S.2.2.2.1 S.1.2.1 r, zk_up S.2.2.2.2.1 S.1.2.1 x, zk_up S.2.2.2.2.2.1 S.1.2.1 y, zk_up S.2.2.2.2.2.2 S.1.2.1 z))
  else (false, S)
def zk_pt (tx : Nat → Nat) (L : Nat) (S : zK) : Bool × zK :=
  if tx S.1.2.2.1 = 99 then zk_se tx L S 2 3
  else if tx S.1.2.2.1 = 101 then zk_ex tx L S
  else if tx S.1.2.2.1 = 108 then zk_li tx L S
  else if tx S.1.2.2.1 = 112 then zk_se tx L S 1 1
  else (false, S)
def zk_q1 (S : zK) : zK := ((S.1.1, S.1.2.1, S.1.2.2.1, S.1.2.2.2 + 1), S.2)
def zk_lp (tx : Nat → Nat) (L : Nat) : Nat → zK → Bool × zK
  | 0, S => (true, S)
  | f + 1, S => if L ≤ S.1.2.2.1 then (true, S) else if (zk_pt tx L S).1 = true then zk_lp tx L f (zk_q1 (zk_pt tx L S).2) else (false, (zk_pt tx L S).2)
/-- sound -/
def zK_ok (S : zK) : Prop := 1 ≤ S.1.1 ∧ S.1.1 ≤ 5 ∧ S.1.2.1 ≤ 4 ∧ (∀ k, S.2.1 k ≤ 9) ∧ (∀ i j, i < 5 → j < 5 → (S.1.1 ≤ i ∨ S.1.1 ≤ j ∨ i = j) → S.2.1 (5 * i + j) = 0) ∧ (∀ i j, i < 5 → j < 5 → S.2.1 (5 * i + j) = S.2.1 (5 * j + i)) ∧ (∀ k, S.2.2.1 k ≤ 3) ∧ (∀ i j, i < 5 → j < 5 → (S.1.1 ≤ i ∨ S.1.1 ≤ j ∨ i = j) → S.2.2.1 (5 * i + j) = 0) ∧ (∀ i j, i < 5 → j < 5 → S.2.2.1 (5 * i + j) ≠ 0 → S.2.2.1 (5 * j + i) ≠ 0) ∧ (∀ e, S.2.2.2.1 e < 5) ∧ (∀ e, e < S.1.2.1 → S.2.2.2.1 e < S.1.1) ∧ (∀ e, S.2.2.2.2.1 e ≤ 2) ∧ (∀ e, S.2.2.2.2.2.1 e ≤ 5) ∧ ∀ e, S.2.2.2.2.2.2 e ≤ 5
theorem zk_dg_le {tx : Nat → Nat} {L p lo hi v : Nat} (h : zk_dg tx L p lo hi = some v) : lo ≤ v ∧ v ≤ hi ∧ p < L := by
  unfold zk_dg at h
  split at h
  · cases h; omega
  · cases h
theorem zk_tw_ok {tx : Nat → Nat} {L : Nat} {w : Nat → Nat} {n p : Nat} {q : Nat × Nat} (hn : 1 ≤ n) (h : zk_tw tx L w n p = .inr q) : q.1 < n ∧ q.2 < n ∧ q.1 ≠ q.2 ∧ p + 2 < L := by
  unfold zk_tw at h
  split at h
  · split at h
    · cases h
    · rename_i i hi
      split at h
      · split at h
        · cases h
        · rename_i j hj
          split at h
          · rename_i hf
            cases h
            have h1 := zk_dg_le hi
            have h2 := zk_dg_le hj
            unfold zk_fr at hf
            simp only [Bool.and_eq_true, decide_eq_true_eq] at hf
            exact ⟨by dsimp only; omega, by dsimp only; omega, hf.1, h2.2.2⟩
          · cases h
      · cases h
  · cases h
theorem zk_tw_le {tx : Nat → Nat} {L : Nat} {w : Nat → Nat} {n p e : Nat} (h : zk_tw tx L w n p = .inl e) : e ≤ p + 2 := by
  unfold zk_tw at h
  split at h
  · split at h
    · cases h; omega
    · split at h
      · split at h
        · cases h; omega
        · split at h
          · cases h
          · cases h; omega
      · cases h; omega
  · cases h; omega
theorem zK_pu {S : zK} (h : zK_ok S) {i j : Nat} (hi : i < S.1.1) (hj : j < S.1.1) (hij : i ≠ j) : (∀ {v p q}, v ≤ 9 → zK_ok ((S.1.1, S.1.2.1, p, q), zk_pu S.2.1 i j v v, S.2.2)) ∧ ∀ {a b p q}, 1 ≤ a → a ≤ 3 → 1 ≤ b → b ≤ 3 → zK_ok ((S.1.1, S.1.2.1, p, q), S.2.1, zk_pu S.2.2.1 i j a b, S.2.2.2) := by
  obtain ⟨h1, h2, h3, h4, h5, h6, h7, h8, h9, h10⟩ := h
  refine ⟨fun {v p q} hv => ⟨h1, h2, h3, fun k => ?_, fun a b ha hb hab => ?_, fun a b ha hb => ?_, h7, h8, h9, h10⟩, fun {a b p q} a1 a2 b1 b2 => ⟨h1, h2, h3, h4, h5, h6, fun k => ?_, fun c d hc hd hcd => ?_, fun c d hc hd hne => ?_, h10⟩⟩
  · show (if k = 5 * j + i then v else if k = 5 * i + j then v else S.2.1 k) ≤ 9
    split
    · exact hv
    · split
      · exact hv
      · exact h4 k
  · show (if 5 * a + b = 5 * j + i then v else if 5 * a + b = 5 * i + j then v else S.2.1 (5 * a + b)) = 0
    dsimp only at hab
    rw [if_neg (by omega), if_neg (by omega)]
    exact h5 a b ha hb hab
  · show (if 5 * a + b = 5 * j + i then v else if 5 * a + b = 5 * i + j then v else S.2.1 (5 * a + b)) = (if 5 * b + a = 5 * j + i then v else if 5 * b + a = 5 * i + j then v else S.2.1 (5 * b + a))
    by_cases q1 : 5 * a + b = 5 * j + i
    · rw [if_pos q1]
      by_cases q2 : 5 * b + a = 5 * j + i
      · rw [if_pos q2]
      · rw [if_neg q2, if_pos (by omega)]
    · rw [if_neg q1]
      by_cases q2 : 5 * a + b = 5 * i + j
      · rw [if_pos q2, if_pos (by omega)]
      · rw [if_neg q2, if_neg (by omega), if_neg (by omega)]
        exact h6 a b ha hb
  · show (if k = 5 * j + i then b else if k = 5 * i + j then a else S.2.2.1 k) ≤ 3
    split
    · exact b2
    · split
      · exact a2
      · exact h7 k
  · show (if 5 * c + d = 5 * j + i then b else if 5 * c + d = 5 * i + j then a else S.2.2.1 (5 * c + d)) = 0
    dsimp only at hcd
    rw [if_neg (by omega), if_neg (by omega)]
    exact h8 c d hc hd hcd
  · show (if 5 * d + c = 5 * j + i then b else if 5 * d + c = 5 * i + j then a else S.2.2.1 (5 * d + c)) ≠ 0
    have hne' : (if 5 * c + d = 5 * j + i then b else if 5 * c + d = 5 * i + j then a else S.2.2.1 (5 * c + d)) ≠ 0 := hne
    by_cases q1 : 5 * d + c = 5 * j + i
    · rw [if_pos q1]; omega
    · rw [if_neg q1]
      by_cases q2 : 5 * d + c = 5 * i + j
      · rw [if_pos q2]; omega
      · rw [if_neg q2]
        rw [if_neg (by omega), if_neg (by omega)] at hne'
        exact h9 c d hc hd hne'
theorem zk_pt_ok {tx : Nat → Nat} {L : Nat} {S : zK} (h : zK_ok S) (hb : ∀ k, k < L → tx k < 256) : zK_ok (zk_pt tx L S).2 ∧ ((zk_pt tx L S).1 = true → S.1.2.2.1 + 1 ≤ (zk_pt tx L S).2.1.2.2.1) ∧ (zk_pt tx L S).2.1.2.2.1 ≤ S.1.2.2.1 + 5 := by
  have sp : ∀ p, zK_ok (zk_sp S p) := fun p => h
  have se : ∀ a b, 1 ≤ a → a ≤ 3 → 1 ≤ b → b ≤ 3 → zK_ok (zk_se tx L S a b).2 ∧ ((zk_se tx L S a b).1 = true → S.1.2.2.1 + 1 ≤ (zk_se tx L S a b).2.1.2.2.1) ∧ (zk_se tx L S a b).2.1.2.2.1 ≤ S.1.2.2.1 + 5 := by
    intro a b a1 a2 b1 b2
    unfold zk_se
    cases hq : zk_tw tx L S.2.2.1 S.1.1 S.1.2.2.1 with
    | inl e =>
      have := zk_tw_le hq
      exact ⟨sp e, fun z => Bool.noConfusion z, by show e ≤ _; omega⟩
    | inr q =>
      obtain ⟨q1, q2, q3, -⟩ := zk_tw_ok h.1 hq
      exact ⟨(zK_pu h q1 q2 q3).2 a1 a2 b1 b2, fun _ => by dsimp only; omega, by dsimp only; omega⟩
  unfold zk_pt
  split
  · exact se 2 3 (by decide) (by decide) (by decide) (by decide)
  split
  · unfold zk_ex
    split
    · rename_i hm
      cases d1 : zk_dg tx L (S.1.2.2.1 + 1) 0 (S.1.1 - 1) with
      | none => exact ⟨sp _, fun z => Bool.noConfusion z, by show _ + 1 ≤ _; omega⟩
      | some r =>
        cases d2 : zk_dg tx L (S.1.2.2.1 + 2) 0 2 with
        | none => exact ⟨sp _, fun z => Bool.noConfusion z, by show _ + 2 ≤ _; omega⟩
        | some x =>
          cases d3 : zk_dg tx L (S.1.2.2.1 + 3) 1 5 with
          | none => exact ⟨sp _, fun z => Bool.noConfusion z, by show _ + 3 ≤ _; omega⟩
          | some y =>
            cases d4 : zk_dg tx L (S.1.2.2.1 + 4) 0 5 with
            | none => exact ⟨sp _, fun z => Bool.noConfusion z, by show _ + 4 ≤ _; omega⟩
            | some z =>
              have l1 := zk_dg_le d1
              have l2 := zk_dg_le d2
              have l3 := zk_dg_le d3
              have l4 := zk_dg_le d4
              obtain ⟨h1, h2, h3, h4, h5, h6, h7, h8, h9, h10, h11, h12, h13, h14⟩ := h
              refine ⟨⟨h1, h2, hm, h4, h5, h6, h7, h8, h9, fun e => ?_, fun e he => ?_, fun e => ?_, fun e => ?_, fun e => ?_⟩, fun _ => by dsimp only; omega, by dsimp only; omega⟩
              · show (if e = S.1.2.1 then r else S.2.2.2.1 e) < 5
                split
                · omega
                · exact h10 e
              · show (if e = S.1.2.1 then r else S.2.2.2.1 e) < S.1.1
                have he' : e < S.1.2.1 + 1 := he
                split
                · omega
                · exact h11 e (by omega)
              · show (if e = S.1.2.1 then x else S.2.2.2.2.1 e) ≤ 2
                split
                · omega
                · exact h12 e
              · show (if e = S.1.2.1 then y else S.2.2.2.2.2.1 e) ≤ 5
                split
                · omega
                · exact h13 e
              · show (if e = S.1.2.1 then z else S.2.2.2.2.2.2 e) ≤ 5
                split
                · omega
                · exact h14 e
    · exact ⟨h, fun z => Bool.noConfusion z, by dsimp only; omega⟩
  split
  · unfold zk_li
    cases hq : zk_tw tx L S.2.1 S.1.1 S.1.2.2.1 with
    | inl e =>
      have := zk_tw_le hq
      exact ⟨sp e, fun z => Bool.noConfusion z, by show e ≤ _; omega⟩
    | inr q =>
      obtain ⟨q1, q2, q3, -⟩ := zk_tw_ok h.1 hq
      cases d1 : zk_dg tx L (S.1.2.2.1 + 3) 1 9 with
      | none => exact ⟨sp _, fun z => Bool.noConfusion z, by show _ + 3 ≤ _; omega⟩
      | some v =>
        have l1 := zk_dg_le d1
        exact ⟨(zK_pu h q1 q2 q3).1 l1.2.1, fun _ => by dsimp only; omega, by dsimp only; omega⟩
  split
  · exact se 1 1 (by decide) (by decide) (by decide) (by decide)
  · exact ⟨h, fun z => Bool.noConfusion z, by dsimp only; omega⟩
theorem zk_lp_ok {tx : Nat → Nat} {L : Nat} (hb : ∀ k, k < L → tx k < 256) : ∀ f S, zK_ok S → zK_ok (zk_lp tx L f S).2 := by
  intro f
  induction f with
  | zero => intro S h; exact h
  | succ f ih =>
    intro S h
    unfold zk_lp
    split
    · exact h
    · split
      · exact ih _ (zk_pt_ok h hb).1
      · exact (zk_pt_ok h hb).1
/-- a scan of the text: whether it is sound; where it stands at its end -/
def zk_s0 (tx : Nat → Nat) : (Nat → Nat) × (Nat → Nat) × (Nat → Nat) × (Nat → Nat) := (fun e => if e < 4 then tx (100 + e) else 0, fun e => if e < 4 then tx (104 + e) else 0, fun e => if e < 4 then tx (108 + e) else 0, fun e => if e < 4 then tx (112 + e) else 0)
def zk_sc (tx : Nat → Nat) (L : Nat) : Bool × zK :=
  if L = 0 ∨ tx 0 ≠ 68 then (false, ((0, 0, 0, 0), fun _ => 0, fun _ => 0, zk_s0 tx))
  else match zk_dg tx L 1 1 5 with
    | none => (false, ((0, 0, 1, 0), fun _ => 0, fun _ => 0, zk_s0 tx))
    | some n => zk_lp tx L L ((n, 0, 2, 0), fun _ => 0, fun _ => 0, zk_s0 tx)
