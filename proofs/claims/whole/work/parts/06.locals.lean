/-! ===== the locals ===== -/
/-- a value that a place of the list really says -/
def zv_ok (lv : zv_L) (i : Nat) (v : Value) : Prop := zv_at lv i = some v ∧ v ≠ .null ∧ (v.category = 2 → zv_at lv (i + 1) = some .null)
def zv_lr (b : Nat) (x : Nat → Nat) (ls : Array Slot) (nL : Nat) (lv : zv_L) : Prop := ls.size = nL ∧ lv_wf ls ∧ ∀ i v, zv_ok lv i v → ls[i]? = some (.val (zv_vl b x v))
def zv_pr (b : Nat) (x : Nat → Nat) (lv : zv_L) : List (Nat × Value) := (List.range lv.length).filterMap fun i => match zv_at lv i with
  | none => none
  | some v => bif !(decide (v = .null)) && (!(decide (v.category = 2)) || decide (zv_at lv (i + 1) = some .null)) then some (i, zv_vl b x v) else none
theorem zv_at_lt : ∀ (lv : zv_L) (i : Nat) {v : Value}, zv_at lv i = some v → i < lv.length
  | [], _, _, h => by cases h
  | _ :: _, 0, _, _ => Nat.zero_lt_succ _
  | _ :: t, n + 1, _, h => Nat.succ_lt_succ (zv_at_lt t n h)
theorem zv_at_get : ∀ (lv : zv_L) (i : Nat), zv_at lv i = (lv[i]?).getD none
  | [], _ => by simp [zv_at]
  | o :: _, 0 => by simp [zv_at]
  | _ :: t, n + 1 => by simp [zv_at, zv_at_get t n]
theorem zv_at_set (lv : zv_L) (i j : Nat) (o : Option Value) : zv_at (lv.set i o) j = if i = j ∧ i < lv.length then o else zv_at lv j := by
  rw [zv_at_get, zv_at_get]
  by_cases h : i = j
  · subst h
    by_cases hl : i < lv.length
    · rw [if_pos ⟨rfl, hl⟩, List.getElem?_set_self hl]; rfl
    · rw [if_neg (fun q => hl q.2), List.set_eq_of_length_le (by omega)]
  · rw [if_neg (fun q => h q.1), List.getElem?_set_ne h]
theorem zv_pr_mem {b : Nat} {x : Nat → Nat} {lv : zv_L} {i : Nat} {v : Value} (h : zv_ok lv i v) : (i, zv_vl b x v) ∈ zv_pr b x lv := by
  obtain ⟨h1, h2, h3⟩ := h
  refine List.mem_filterMap.mpr ⟨i, List.mem_range.mpr (zv_at_lt lv i h1), ?_⟩
  rw [h1]
  dsimp only
  by_cases hc : v.category = 2
  · simp [h2, hc, h3 hc]
  · simp [h2, hc]
theorem zv_pr_of {b : Nat} {x : Nat → Nat} {lv : zv_L} {q : Nat × Value} (h : q ∈ zv_pr b x lv) : ∃ v, zv_ok lv q.1 v ∧ q.2 = zv_vl b x v := by
  obtain ⟨i, -, h⟩ := List.mem_filterMap.mp h
  cases hv : zv_at lv i with
  | none => rw [hv] at h; cases h
  | some v =>
    rw [hv] at h
    dsimp only at h
    by_cases hb : (!(decide (v = .null)) && (!(decide (v.category = 2)) || decide (zv_at lv (i + 1) = some .null))) = true
    · rw [hb] at h
      have e : (i, zv_vl b x v) = q := Option.some.inj h
      subst e
      simp only [Bool.and_eq_true, Bool.not_eq_true', decide_eq_false_iff_not, Bool.or_eq_true, decide_eq_true_eq] at hb
      exact ⟨v, ⟨hv, hb.1, fun hc => hb.2.resolve_left (fun z => z hc)⟩, rfl⟩
    · rw [Bool.not_eq_true] at hb
      rw [hb] at h
      cases h
theorem zv_lr_has {b : Nat} {x : Nat → Nat} {ls : Array Slot} {nL : Nat} {lv : zv_L} (h : zv_lr b x ls nL lv) : lv_has ls nL (zv_pr b x lv) := by
  refine ⟨h.1, h.2.1, fun q hq => ?_⟩
  obtain ⟨v, hv, e⟩ := zv_pr_of hq
  rw [e]
  exact h.2.2 q.1 v hv
theorem zv_vl_cat (b : Nat) (x : Nat → Nat) (v : Value) : (zv_vl b x v).category = v.category := by cases v <;> rfl
theorem zv_lr_s1 {b : Nat} {x : Nat → Nat} {ls' : Array Slot} {nL i : Nat} {lv : zv_L} {v : Value} (hc : v.category = 1) (hn : v ≠ .null)
    (h : lv_has ls' nL ((i, zv_vl b x v) :: (zv_pr b x lv).filter (fun q => !(q.1 == i) && !(q.1 + 1 == i && q.2.category == 2)))) : zv_lr b x ls' nL (zv_s1 lv i v) := by
  refine ⟨h.1, h.2.1, fun j w hw => ?_⟩
  obtain ⟨h1, h2, h3⟩ := hw
  unfold zv_s1 at h1 h3
  rw [zv_at_set] at h1
  by_cases hj : i = j ∧ i < lv.length
  · rw [if_pos hj] at h1
    obtain ⟨rfl, -⟩ := hj
    cases h1
    exact h.2.2 (i, zv_vl b x v) List.mem_cons_self
  · rw [if_neg hj] at h1
    have hji : ¬ j = i := by
      intro e
      subst e
      exact hj ⟨rfl, zv_at_lt lv j h1⟩
    have hw2 : w.category = 2 → zv_at lv (j + 1) = some .null ∧ ¬ j + 1 = i := by
      intro hc2
      have h4 := h3 hc2
      rw [zv_at_set] at h4
      by_cases hk : i = j + 1 ∧ i < lv.length
      · rw [if_pos hk] at h4
        exact absurd (Option.some.inj h4) hn
      · rw [if_neg hk] at h4
        exact ⟨h4, fun e => hk ⟨e.symm, e ▸ zv_at_lt lv (j + 1) h4⟩⟩
    refine h.2.2 (j, zv_vl b x w) (List.mem_cons_of_mem _ (List.mem_filter.mpr ⟨zv_pr_mem ⟨h1, h2, fun q => (hw2 q).1⟩, ?_⟩))
    dsimp only
    by_cases hc2 : w.category = 2
    · simp [hji, (hw2 hc2).2]
    · simp [hji, zv_vl_cat, hc2]
theorem zv_lr_s2 {b : Nat} {x : Nat → Nat} {ls' : Array Slot} {nL i : Nat} {lv : zv_L} {v : Int64}
    (h : lv_has ls' nL ((i, .long v) :: (zv_pr b x lv).filter (fun q => !(q.1 == i) && (!(q.1 == i + 1) && !(q.1 + 1 == i && q.2.category == 2))))) : zv_lr b x ls' nL (zv_s2 lv i (.long v)) := by
  refine ⟨h.1, h.2.1, fun j w hw => ?_⟩
  obtain ⟨h1, h2, h3⟩ := hw
  unfold zv_s2 at h1 h3
  rw [zv_at_set, zv_at_set, List.length_set] at h1
  by_cases hj1 : i + 1 = j ∧ i + 1 < lv.length
  · rw [if_pos hj1] at h1
    exact absurd (Option.some.inj h1).symm h2
  · rw [if_neg hj1] at h1
    by_cases hj : i = j ∧ i < lv.length
    · rw [if_pos hj] at h1
      obtain ⟨rfl, -⟩ := hj
      cases h1
      exact h.2.2 (i, .long v) List.mem_cons_self
    · rw [if_neg hj] at h1
      have hlt := zv_at_lt lv j h1
      have hji : ¬ j = i := fun e => hj ⟨e.symm, e ▸ hlt⟩
      have hji1 : ¬ j = i + 1 := fun e => hj1 ⟨e.symm, e ▸ hlt⟩
      have hw2 : w.category = 2 → zv_at lv (j + 1) = some .null ∧ ¬ j + 1 = i := by
        intro hc2
        have h4 := h3 hc2
        rw [zv_at_set, zv_at_set, List.length_set] at h4
        rw [if_neg (fun q => hji (by omega))] at h4
        by_cases hk : i = j + 1 ∧ i < lv.length
        · rw [if_pos hk] at h4
          cases h4
        · rw [if_neg hk] at h4
          exact ⟨h4, fun e => hk ⟨e.symm, e ▸ zv_at_lt lv (j + 1) h4⟩⟩
      refine h.2.2 (j, zv_vl b x w) (List.mem_cons_of_mem _ (List.mem_filter.mpr ⟨zv_pr_mem ⟨h1, h2, fun q => (hw2 q).1⟩, ?_⟩))
      dsimp only
      by_cases hc2 : w.category = 2
      · simp [hji, hji1, (hw2 hc2).2]
      · simp [hji, hji1, zv_vl_cat, hc2]
theorem zv_at_rep (n i : Nat) {v : Value} (h : zv_at (List.replicate n none) i = some v) : False := by
  rw [zv_at_get, List.getElem?_replicate] at h
  by_cases hi : i < n
  · rw [if_pos hi] at h; cases h
  · rw [if_neg hi] at h; cases h
theorem zv_en_mem (b : Nat) (x : Nat → Nat) : ∀ (As : List Value) (n k i : Nat) (v : Value), zv_at (zv_en As n) i = some v → v ≠ .null → (k + i, zv_vl b x v) ∈ lv_args k (As.map (zv_vl b x)) := by
  intro As
  induction As with
  | nil => intro n k i v h _; exact (zv_at_rep n i h).elim
  | cons a t ih =>
    have one : ∀ (w : Value), w.category = 1 → ∀ (n k i : Nat) (v : Value), zv_at (some w :: zv_en t (n - 1)) i = some v → v ≠ .null → (k + i, zv_vl b x v) ∈ lv_args k ((w :: t).map (zv_vl b x)) := by
      intro w hw n k i v h hn
      rw [List.map_cons]
      unfold lv_args
      cases i with
      | zero => cases h; exact List.mem_cons_self
      | succ j =>
        refine List.mem_cons_of_mem _ ?_
        rw [if_neg (by rw [zv_vl_cat]; omega)]
        have := ih (n - 1) (k + 1) j v h hn
        rwa [show k + 1 + j = k + (j + 1) by omega] at this
    have two : ∀ (w : Value), w.category = 2 → ∀ (n k i : Nat) (v : Value), zv_at (some w :: some .null :: zv_en t (n - 2)) i = some v → v ≠ .null → (k + i, zv_vl b x v) ∈ lv_args k ((w :: t).map (zv_vl b x)) := by
      intro w hw n k i v h hn
      rw [List.map_cons]
      unfold lv_args
      match i, h with
      | 0, h => cases h; exact List.mem_cons_self
      | 1, h => exact absurd (Option.some.inj h).symm hn
      | j + 2, h =>
        refine List.mem_cons_of_mem _ ?_
        rw [if_pos (by rw [zv_vl_cat]; omega)]
        have := ih (n - 2) (k + 2) j v h hn
        rwa [show k + 2 + j = k + (j + 2) by omega] at this
    cases a with
    | long y => exact two _ rfl
    | double y => exact two _ rfl
    | int y => exact one _ rfl
    | float y => exact one _ rfl
    | null => exact one _ rfl
    | ref y => exact one _ rfl
    | retAddr y => exact one _ rfl
theorem zv_sl_len : ∀ (vs : List Value), (lg_sl vs).length = zv_cs vs
  | [] => rfl
  | v :: t => by
    have e : lg_sl (v :: t) = (if v.category = 2 then [Slot.val v, .second] else [.val v]) ++ lg_sl t := by simp [lg_sl]
    rw [e, List.length_append, zv_sl_len t]
    show _ = v.category + zv_cs t
    rcases lv_cat v with h | h <;> simp [h]
theorem zv_cs_map (b : Nat) (x : Nat → Nat) : ∀ (vs : List Value), zv_cs (vs.map (zv_vl b x)) = zv_cs vs
  | [] => rfl
  | v :: t => by
    rw [List.map_cons]
    show (zv_vl b x v).category + zv_cs (t.map (zv_vl b x)) = v.category + zv_cs t
    rw [zv_vl_cat, zv_cs_map b x t]
theorem zv_cs_sum : ∀ (vs : List Value), (vs.map fun v => v.category).sum = zv_cs vs
  | [] => rfl
  | v :: t => by
    rw [List.map_cons, List.sum_cons, zv_cs_sum t]
    rfl
/-- a method's entry -/
theorem zv_lr_en {b : Nat} {x : Nat → Nat} {As : List Value} {n : Nat} (h : zv_cs As ≤ n) : zv_lr b x ((lg_sl (As.map (zv_vl b x)) ++ List.replicate (n - (lg_sl (As.map (zv_vl b x))).length) Slot.unset).toArray) n (zv_en As n) := by
  have he := lv_entry (As.map (zv_vl b x)) (n := n) (by rw [zv_sl_len, zv_cs_map]; exact h)
  refine ⟨he.1, he.2.1, fun i v hv => ?_⟩
  have := he.2.2 (0 + i, zv_vl b x v) (zv_en_mem b x As n 0 i v hv.1 hv.2.1)
  rwa [Nat.zero_add] at this
