/-! ===== runs ===== -/
def za_it (T : zT) (X : zX) (A : zA) : Nat → zA
  | 0 => A
  | k + 1 => za_rd T X (za_it T X A k)
theorem za_it_W {T : zT} {X : zX} {A : zA} (hT : zT_ok T) (hW : za_W T A) : ∀ k, za_W T (za_it T X A k) := by
  intro k
  induction k with
  | zero => exact hW
  | succ k ih => exact za_rd_W hT ih
/-- how a run ends: outcome, entry, period, last round -/
def zR (S : Nat → zA) (o en pe k : Nat) : Prop := (∀ a b, a < b → b < k → S a ≠ S b) ∧ ((o = 0 ∧ 1 ≤ k ∧ k ≤ 60 ∧ S (k - 1) = S k ∧ en = k - 1 ∧ pe = 0) ∨ (o = 1 ∧ k ≤ 60 ∧ en + 1 < k ∧ S en = S k ∧ pe = k - en) ∨ (o = 2 ∧ k = 60 ∧ en = 0 ∧ pe = 0 ∧ ∀ a, a < 60 → S a ≠ S 60))
theorem zR_le {S : Nat → zA} {o en pe k : Nat} (h : zR S o en pe k) : k ≤ 60 := by
  rcases h.2 with q | q | q <;> omega
theorem zR_rep {S : Nat → zA} {o en pe k : Nat} (h : zR S o en pe k) : (o = 2 ∧ k = 60 ∧ en = 0 ∧ pe = 0 ∧ ∀ a b, a < b → b ≤ 60 → S a ≠ S b) ∨ (∃ c, c < k ∧ S c = S k ∧ ((o = 0 ∧ c = k - 1 ∧ en = c ∧ pe = 0) ∨ (o = 1 ∧ c ≠ k - 1 ∧ en = c ∧ pe = k - c))) := by
  rcases h.2 with q | q | q
  · exact Or.inr ⟨k - 1, by omega, q.2.2.2.1, Or.inl ⟨q.1, rfl, q.2.2.2.2.1, q.2.2.2.2.2⟩⟩
  · exact Or.inr ⟨en, by omega, q.2.2.2.1, Or.inr ⟨q.1, by omega, rfl, q.2.2.2.2⟩⟩
  · refine Or.inl ⟨q.1, q.2.1, q.2.2.1, q.2.2.2.1, fun a b hab hb => ?_⟩
    by_cases hb6 : b = 60
    · subst hb6; exact q.2.2.2.2 a hab
    · exact h.1 a b hab (by omega)
theorem zR_one {S : Nat → zA} {o en pe k o' en' pe' k' : Nat} (h : zR S o en pe k) (h' : zR S o' en' pe' k') : o = o' ∧ en = en' ∧ pe = pe' ∧ k = k' := by
  have l := zR_le h
  have l' := zR_le h'
  rcases zR_rep h with q | ⟨c, q1, q2, q3⟩
  · rcases zR_rep h' with r | ⟨c', r1, r2, r3⟩
    · omega
    · exact absurd r2 (q.2.2.2.2 c' k' r1 l')
  · rcases zR_rep h' with r | ⟨c', r1, r2, r3⟩
    · exact absurd q2 (r.2.2.2.2 c k q1 l)
    · have ek : k = k' := by
        rcases Nat.lt_trichotomy k k' with z | z | z
        · exact absurd q2 (h'.1 c k q1 z)
        · exact z
        · exact absurd r2 (h.1 c' k' r1 z)
      subst ek
      have ec : c = c' := by
        rcases Nat.lt_trichotomy c c' with z | z | z
        · exact absurd (q2.trans r2.symm) (h.1 c c' z r1)
        · exact z
        · exact absurd (r2.trans q2.symm) (h.1 c' c z q1)
      subst ec
      omega
theorem za_cn_0 {T : zT} {X : zX} {A : zA} : ∀ k, (za_cn T X A k = 0 ↔ ∀ i, i < k → za_ch T X A i = false) := by
  intro k
  induction k with
  | zero => exact ⟨fun _ i hi => absurd hi (Nat.not_lt_zero i), fun _ => rfl⟩
  | succ k ih =>
    show za_cn T X A k + (if za_ch T X A k = true then 1 else 0) = 0 ↔ _
    constructor
    · intro h i hi
      have h1 : za_cn T X A k = 0 := by omega
      by_cases hik : i = k
      · subst hik
        cases hc : za_ch T X A i with
        | false => rfl
        | true => rw [if_pos hc] at h; omega
      · exact ih.mp h1 i (by omega)
    · intro h
      rw [ih.mpr (fun i hi => h i (by omega)), if_neg (by rw [h k (by omega)]; decide)]
theorem zA_ext {T : zT} {A B : zA} (hT : zT_ok T) (hA : za_W T A) (hB : za_W T B) (h : ∀ j, j < 5 → A j 0 = B j 0 ∧ A j 1 = B j 1) : A = B := by
  have h5 := hT.2.1
  funext j k
  by_cases hj : j < 5
  · by_cases hk : k < 2
    · have : k = 0 ∨ k = 1 := by omega
      rcases this with rfl | rfl
      · exact (h j hj).1
      · exact (h j hj).2
    · rw [hA.2.2 j k (Or.inr (by omega)), hB.2.2 j k (Or.inr (by omega))]
  · rw [hA.2.2 j k (Or.inl (by omega)), hB.2.2 j k (Or.inl (by omega))]
theorem za_rd_same {T : zT} {X : zX} {A : zA} (hT : zT_ok T) (hW : za_W T A) : za_cn T X A (zT_n T) = 0 ↔ A = za_rd T X A := by
  rw [za_cn_0]
  constructor
  · intro h
    refine zA_ext hT hW (za_rd_W hT hW) (fun j hj => ?_)
    unfold za_rd
    by_cases hjn : j < zT_n T
    · rw [if_pos hjn]
      have := h j hjn
      unfold za_ch at this
      simp only [Bool.not_eq_false', Bool.and_eq_true, decide_eq_true_eq] at this
      exact ⟨this.1.symm, this.2.symm⟩
    · rw [if_neg hjn]; exact ⟨rfl, rfl⟩
  · intro h i hi
    have e : A i = za_de T X A i := by
      have := congrFun h i
      rw [this]
      unfold za_rd
      rw [if_pos hi]
    unfold za_ch
    rw [← e]
    simp
/-- codes of choices tell them apart -/
theorem zA_code {T : zT} {A B : zA} (hT : zT_ok T) (hA : za_W T A) (hB : za_W T B) : (∀ j, j < 5 → nI (A j 0 + 2048 * A j 1) = nI (B j 0 + 2048 * B j 1)) ↔ A = B := by
  constructor
  · intro h
    refine zA_ext hT hA hB (fun j hj => ?_)
    have a0 := za_R_lt (hA.1 j 0)
    have a1 := za_R_lt (hA.1 j 1)
    have b0 := za_R_lt (hB.1 j 0)
    have b1 := za_R_lt (hB.1 j 1)
    have := (nI_eq (by omega) (by omega)).mp (h j hj)
    omega
  · intro h j _
    rw [h]
theorem zA_cells {T : zT} {A B : zA} (hT : zT_ok T) (hA : za_W T A) (hB : za_W T B) : (∀ j q, j < 5 → q < 6 → zm_t (A j) q = zm_t (B j) q) ↔ A = B := by
  constructor
  · intro h
    exact zA_ext hT hA hB (fun j hj => (zm_t_inj (T := T) (i := j) (fun k _ => hA.1 j k) (fun k _ => hB.1 j k)).mp (fun q hq => h j q hj hq))
  · intro h j q _ _
    rw [h]
