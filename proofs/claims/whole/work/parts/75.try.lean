/-! ===== what the orders come to ===== -/
theorem zl_snoc {P : List Nat → Prop} (l : List Nat) (nil : P []) (append_singleton : ∀ l c, P l → P (l ++ [c])) : P l := by
  have key : ∀ l : List Nat, P l.reverse := by
    intro l
    induction l with
    | nil => exact nil
    | cons c l ih => rw [List.reverse_cons]; exact append_singleton _ _ ih
  have := key l.reverse
  rw [List.reverse_reverse] at this
  exact this
def zad (D : List Nat) (r : Option Nat) : List Nat := match r with
  | none => D
  | some v => if v ∈ D then D else D ++ [v]
def zfo (rs : Nat → Option Nat) (l : List Nat) : List Nat := l.foldl (fun D c => zad D (rs c)) []
def zmi (D : List Nat) : Nat := D.foldl min 100000
theorem zfo_snoc (rs : Nat → Option Nat) (l : List Nat) (c : Nat) : zfo rs (l ++ [c]) = zad (zfo rs l) (rs c) := by
  unfold zfo
  rw [List.foldl_append]
  rfl
theorem zmi_snoc (D : List Nat) (v : Nat) : zmi (D ++ [v]) = min (zmi D) v := by
  unfold zmi
  rw [List.foldl_append]
  rfl
theorem zfo_mem (rs : Nat → Option Nat) (v : Nat) : ∀ l : List Nat, v ∈ zfo rs l ↔ ∃ c, c ∈ l ∧ rs c = some v := by
  intro l
  induction l using zl_snoc with
  | nil => simp [zfo]
  | append_singleton l c ih =>
    rw [zfo_snoc]
    cases hr : rs c with
    | none =>
      show v ∈ zfo rs l ↔ _
      rw [ih]
      constructor
      · rintro ⟨d, hd, h⟩
        exact ⟨d, List.mem_append_left _ hd, h⟩
      · rintro ⟨d, hd, h⟩
        rcases List.mem_append.mp hd with q | q
        · exact ⟨d, q, h⟩
        · rw [List.mem_singleton.mp q, hr] at h; cases h
    | some w =>
      show v ∈ (if w ∈ zfo rs l then zfo rs l else zfo rs l ++ [w]) ↔ _
      have key : v ∈ (if w ∈ zfo rs l then zfo rs l else zfo rs l ++ [w]) ↔ v ∈ zfo rs l ∨ v = w := by
        by_cases hw : w ∈ zfo rs l
        · rw [if_pos hw]
          constructor
          · exact Or.inl
          · rintro (q | q)
            · exact q
            · rw [q]; exact hw
        · rw [if_neg hw, List.mem_append, List.mem_singleton]
      rw [key, ih]
      constructor
      · rintro (⟨d, hd, h⟩ | rfl)
        · exact ⟨d, List.mem_append_left _ hd, h⟩
        · exact ⟨c, List.mem_append_right _ (List.mem_singleton.mpr rfl), hr⟩
      · rintro ⟨d, hd, h⟩
        rcases List.mem_append.mp hd with q | q
        · exact Or.inl ⟨d, q, h⟩
        · rw [List.mem_singleton.mp q, hr] at h
          exact Or.inr (Option.some.inj h).symm
theorem zfo_nodup (rs : Nat → Option Nat) : ∀ l : List Nat, (zfo rs l).Nodup := by
  intro l
  induction l using zl_snoc with
  | nil => exact List.nodup_nil
  | append_singleton l c ih =>
    rw [zfo_snoc]
    cases hr : rs c with
    | none => exact ih
    | some w =>
      show (if w ∈ zfo rs l then zfo rs l else zfo rs l ++ [w]).Nodup
      by_cases hw : w ∈ zfo rs l
      · rw [if_pos hw]; exact ih
      · rw [if_neg hw, List.nodup_append]
        refine ⟨ih, by simp, fun a ha b hb => ?_⟩
        rw [List.mem_singleton.mp hb]
        exact fun e => hw (e ▸ ha)
theorem zmi_le : ∀ (D : List Nat) (v : Nat), v ∈ D → zmi D ≤ v := by
  intro D
  induction D using zl_snoc with
  | nil => intro v h; cases h
  | append_singleton l c ih =>
    intro v h
    rw [zmi_snoc]
    rcases List.mem_append.mp h with q | q
    · have := ih v q; omega
    · rw [List.mem_singleton.mp q]; omega
theorem zmi_lt (D : List Nat) : zmi D ≤ 100000 := by
  induction D using zl_snoc with
  | nil => exact Nat.le_refl _
  | append_singleton l c ih => rw [zmi_snoc]; omega
theorem zmi_in : ∀ D : List Nat, (∀ v, v ∈ D → v < 100000) → D ≠ [] → zmi D ∈ D := by
  intro D
  induction D using zl_snoc with
  | nil => intro _ h; exact absurd rfl h
  | append_singleton l c ih =>
    intro h _
    rw [zmi_snoc]
    have hc := h c (List.mem_append_right _ (List.mem_singleton.mpr rfl))
    by_cases hl : l = []
    · subst hl
      show min 100000 c ∈ [] ++ [c]
      rw [show min 100000 c = c by omega]
      exact List.mem_append_right _ (List.mem_singleton.mpr rfl)
    · have hi := ih (fun v hv => h v (List.mem_append_left _ hv)) hl
      by_cases q : zmi l ≤ c
      · rw [show min (zmi l) c = zmi l by omega]; exact List.mem_append_left _ hi
      · rw [show min (zmi l) c = c by omega]; exact List.mem_append_right _ (List.mem_singleton.mpr rfl)
/-- what counts of a list of rests depends on its members alone -/
theorem zfo_same {rs : Nat → Option Nat} {l1 l2 : List Nat} (h : l1.Perm l2) (hv : ∀ c v, rs c = some v → v < 100000) : (zfo rs l1).length = (zfo rs l2).length ∧ zmi (zfo rs l1) = zmi (zfo rs l2) ∧ l1.countP (fun c => (rs c).isSome) = l2.countP (fun c => (rs c).isSome) := by
  have hm : ∀ v, v ∈ zfo rs l1 ↔ v ∈ zfo rs l2 := by
    intro v
    rw [zfo_mem, zfo_mem]
    exact ⟨fun ⟨c, hc, e⟩ => ⟨c, h.mem_iff.mp hc, e⟩, fun ⟨c, hc, e⟩ => ⟨c, h.mem_iff.mpr hc, e⟩⟩
  have hp : (zfo rs l1).Perm (zfo rs l2) := (List.perm_ext_iff_of_nodup (zfo_nodup rs l1) (zfo_nodup rs l2)).mpr hm
  have hb : ∀ l, ∀ v, v ∈ zfo rs l → v < 100000 := by
    intro l v h
    obtain ⟨c, _, e⟩ := (zfo_mem rs v l).mp h
    exact hv c v e
  refine ⟨hp.length_eq, ?_, h.countP_eq _⟩
  by_cases h1 : zfo rs l1 = []
  · have h2 : zfo rs l2 = [] := List.eq_nil_iff_forall_not_mem.mpr fun v hv => by
      have := (hm v).mpr hv
      rw [h1] at this
      cases this
    rw [h1, h2]
  · have h2 : zfo rs l2 ≠ [] := fun e => h1 (List.eq_nil_iff_forall_not_mem.mpr fun v hv => by
      have := (hm v).mp hv
      rw [e] at this
      cases this)
    have a1 := zmi_in _ (hb l1) h1
    have a2 := zmi_in _ (hb l2) h2
    have b1 := zmi_le _ _ ((hm _).mpr a2)
    have b2 := zmi_le _ _ ((hm _).mp a1)
    omega
theorem zgd_app (D : List Nat) (v j : Nat) : (D ++ [v]).getD j 0 = if j < D.length then D.getD j 0 else if j = D.length then v else 0 := by
  rw [List.getD_eq_getElem?_getD, List.getD_eq_getElem?_getD, List.getElem?_append]
  by_cases h : j < D.length
  · rw [if_pos h, if_pos h]
  · rw [if_neg h, if_neg h]
    by_cases h2 : j = D.length
    · subst h2; simp
    · rw [if_neg h2, List.getElem?_eq_none (by simp; omega)]; rfl
theorem zgd_mem (D : List Nat) (v : Nat) : v ∈ D ↔ ∃ j, j < D.length ∧ D.getD j 0 = v := by
  rw [List.mem_iff_getElem]
  constructor
  · rintro ⟨j, hj, e⟩
    exact ⟨j, hj, by rw [List.getD_eq_getElem?_getD, List.getElem?_eq_getElem hj]; exact e⟩
  · rintro ⟨j, hj, e⟩
    refine ⟨j, hj, ?_⟩
    rw [List.getD_eq_getElem?_getD, List.getElem?_eq_getElem hj] at e
    exact e
/-! the class -/
def zpN (g : Nat → Nat → Int32) (D : List Nat) : Prop := g 40 1 = nI D.length ∧ (∀ j, j < D.length → g 42 j = nI (D.getD j 0)) ∧ (D ≠ [] → g 40 2 = nI (zmi D))
theorem ev_noteP {dp : Nat} {g : Nat → Nat → Int32} {h : Nat → Nat → Int64} {D : List Nat} {v : Nat} (hN : zpN g D) (hl : D.length < 120) (hD : ∀ w, w ∈ D → w < 100000) (hv : v < 100000) : ∃ g', (∀ x, x ≠ 40 → x ≠ 42 → g' x = g x) ∧ g' 40 0 = g 40 0 ∧ zpN g' (zad D (some v)) ∧ zv_ev (dp + 1) 13 [.ref 40, .int (nI v)] zS0 (g, h) = zo_v (g', h) := by
  obtain ⟨n1, n2, n3⟩ := hN
  have hz := zmi_lt D
  have hgd : ∀ j, j < D.length → D.getD j 0 < 100000 := fun j hj => hD _ ((zgd_mem D _).mpr ⟨j, hj, rfl⟩)
  rcases zl_ex (σ := Unit) (fun k _ => zv_m zt_X1_note (zv_ev dp) false 2 [some (.ref 40), some (.int (nI v)), some (.int (nI k))] [] zS0 (g, h)) D.length (fun k _ => ∀ j, j < k → D.getD j 0 ≠ v) (fun z => v ∈ D ∧ z = zv_rv zS0 (g, h)) (by
    intro k _ hk hI
    have e1 := zd_X1_note_2 (zv_ev dp) g h (nI v) (nI k)
    have hk2 := hgd k hk
    rw [n1, if_neg (nI_ge hk (by omega)), zi_in (n := 120) (by omega) (by decide), nI_clamp (by omega), n2 k hk, nI_1, cond_true] at e1
    by_cases q : D.getD k 0 = v
    · rw [if_pos (by rw [q])] at e1
      exact Or.inl ⟨(zgd_mem D v).mpr ⟨k, hk, q⟩, e1⟩
    · rw [if_neg (fun z => q ((nI_eq (by omega) (by omega)).mp z))] at e1
      refine Or.inr ⟨(), fun j hj => ?_, e1⟩
      by_cases hjk : j = k
      · subst hjk; exact q
      · exact hI j (by omega)) () (fun j hj => absurd hj (Nat.not_lt_zero j)) with ⟨q1, q2⟩ | ⟨-, q1, q2⟩
  · refine ⟨g, fun _ _ _ => rfl, rfl, ?_, zs_X1_note ((zd_X1_note _ g h _).trans q2)⟩
    show zpN g (if v ∈ D then D else D ++ [v])
    rw [if_pos q1]
    exact ⟨n1, n2, n3⟩
  · have hnm : ¬ v ∈ D := fun z => by
      obtain ⟨j, hj, e⟩ := (zgd_mem D v).mp z
      exact q1 j hj e
    have fin : ∀ w : Int32, w = nI (zmi (D ++ [v])) → zpN (zv_w (zv_w (zv_w g 40 2 w) 42 D.length (nI v)) 40 1 (nI (D.length + 1))) (zad D (some v)) := by
      intro w hw
      show zpN _ (if v ∈ D then D else D ++ [v])
      rw [if_neg hnm]
      refine ⟨by rw [zw_same, List.length_append]; rfl, fun j hj => ?_, fun _ => ?_⟩
      · rw [List.length_append, List.length_singleton] at hj
        rw [zw_cell _ _ _ (by decide), zgd_app]
        by_cases hjl : j = D.length
        · rw [hjl, zw_same, if_neg (by omega), if_pos rfl]
        · rw [zw_other _ _ _ hjl, zw_cell _ _ _ (by decide), if_pos (by omega)]
          exact n2 j (by omega)
      · rw [zw_other _ _ _ (by decide), zw_cell _ _ _ (by decide), zw_same]; exact hw
    have fr : ∀ (w : Int32) x, x ≠ 40 → x ≠ 42 → zv_w (zv_w (zv_w g 40 2 w) 42 D.length (nI v)) 40 1 (nI (D.length + 1)) x = g x := fun w x h1 h2 => (zw_cell _ _ _ h1).trans ((zw_cell _ _ _ h2).trans (zw_cell _ _ _ h1))
    have f0 : ∀ w : Int32, zv_w (zv_w (zv_w g 40 2 w) 42 D.length (nI v)) 40 1 (nI (D.length + 1)) 40 0 = g 40 0 := fun w => (zw_other _ _ _ (by decide)).trans ((congrFun (zw_cell _ _ _ (by decide)) 0).trans (zw_other _ _ _ (by decide)))
    have e1 := q2.trans (zd_X1_note_2 (zv_ev dp) g h (nI v) (nI D.length))
    have w1 : ∀ w : Int32, zv_w g 40 2 w 40 1 = nI D.length := fun w => (zw_other _ _ _ (by decide)).trans n1
    have w2 : ∀ w : Int32, zv_w (zv_w g 40 2 w) 42 D.length (nI v) 40 1 = nI D.length := fun w => (congrFun (zw_cell _ _ _ (by decide)) 1).trans (w1 w)
    rw [n1, if_pos (nI_le (Nat.le_refl _) (by omega))] at e1
    simp only [w1] at e1
    rw [if_neg (zi_ge 120 120 rfl hl (by decide)), zi_in hl (by decide), nI_clamp (by omega)] at e1
    simp only [cond_true] at e1
    by_cases hD0 : D = []
    · have hl0 : D.length = 0 := by rw [hD0]; rfl
      rw [if_pos ((zi_0 (by omega)).mpr hl0), w2, nI_1] at e1
      refine ⟨_, fr _, f0 _, fin (nI v) ?_, zs_X1_note ((zd_X1_note _ g h _).trans e1)⟩
      rw [zmi_snoc, hD0]
      show nI v = nI (min 100000 v)
      rw [show min 100000 v = v by omega]
    · have hl0 : D.length ≠ 0 := fun e => hD0 (List.length_eq_zero_iff.mp e)
      rw [if_neg (fun z => hl0 ((zi_0 (by omega)).mp z)), n3 hD0, zi_min (by omega) (by omega), if_neg (zi_ge 120 120 rfl hl (by decide)), w2, nI_1] at e1
      refine ⟨_, fr _, f0 _, fin _ ?_, zs_X1_note ((zd_X1_note _ g h _).trans e1)⟩
      rw [zmi_snoc]
