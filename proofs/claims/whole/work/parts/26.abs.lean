/-! ===== what both sides simulate ===== -/
abbrev zT : Type := Nat × Nat × (Nat → Nat) × (Nat → Nat) × (Nat → Nat) × (Nat → Nat)
abbrev zX : Type := (Nat → Nat) × (Nat → Nat) × Nat × Nat × Nat
abbrev zA : Type := Nat → Nat → Nat
abbrev zT_n (T : zT) : Nat := T.1
abbrev zT_m (T : zT) : Nat := T.2.1
abbrev zT_se (T : zT) : Nat → Nat := T.2.2.1
abbrev zT_pl (T : zT) : Nat → Nat := T.2.2.2.1
abbrev zT_ne (T : zT) : Nat → Nat := T.2.2.2.2.1
abbrev zT_pa (T : zT) : Nat → Nat := T.2.2.2.2.2
abbrev zX_co (X : zX) : Nat → Nat := X.1
abbrev zX_we (X : zX) : Nat → Nat := X.2.1
abbrev zX_up (X : zX) : Nat := X.2.2.1
abbrev zX_ex (X : zX) : Nat := X.2.2.2.1
abbrev zX_mo (X : zX) : Nat := X.2.2.2.2
/-- distances, over the routers below s -/
def za_d (co : Nat → Nat) : Nat → Nat → Nat → Nat
  | 0, i, j => if i = j then 0 else if 0 < co (5 * i + j) then co (5 * i + j) else 1000
  | s + 1, i, j => min (za_d co s i j) (za_d co s i s + za_d co s s j)
def za_di (co : Nat → Nat) (i j : Nat) : Nat := za_d co 5 i j
def za_te (T : zT) (j i f : Nat) : Bool := decide (zT_se T (5 * j + i) ≠ 0) && (decide (f ≠ i) && (decide (f = j) || decide (zT_se T (5 * j + f) = 2) || decide (zT_se T (5 * j + i) = 2)))
def za_nr (T : zT) (X : zX) (i e : Nat) : Bool := decide (e < zT_m T) && decide (za_di (zX_co X) i (zT_pl T e) < 1000)
def za_at (T : zT) (i e : Nat) : Bool := decide (e < zT_m T) && decide (zT_pl T e = i)
def za_ho (T : zT) (i : Nat) : Nat := zf_set (za_at T i)
def za_ow (T : zT) (X : zX) (i e : Nat) : Bool := za_at T i e && (zX_up X).testBit e
def za_pk (T : zT) (X : zX) (i s : Nat) : Nat := zf_pk s (fun e => nI (zT_pa T e)) (fun e => nI (zT_ne T e)) (fun e => nI (zX_we X e)) (fun e => nI (za_di (zX_co X) i (zT_pl T e))) (za_ho T i) (zX_mo X)
/-- a router hears of a choice -/
def za_ok (T : zT) (X : zX) (i j c : Nat) : Bool := decide (c ≠ 0) && (za_te T j i (zc_f c) && (!((zc_m c ||| 2 ^ j).testBit i) && za_nr T X i (zc_e c)))
def za_be (off : Nat → Nat) (j c : Nat) : Bool := decide (off (zc_e c) = 0) || decide (za_pc (zc_m c ||| 2 ^ j) < za_pc (zc_m (off (zc_e c))))
def za_h1 (T : zT) (X : zX) (i j c : Nat) (off : Nat → Nat) : Nat → Nat := if za_ok T X i j c = true then (if za_be off j c = true then (fun e => if e = zc_e c then zc_k (zc_e c) j (zc_m c ||| 2 ^ j) else off e) else off) else off
def za_o0 (T : zT) (X : zX) (i e : Nat) : Nat := if e < 4 ∧ za_ow T X i e = true then zc_k e i 0 else 0
def za_of (T : zT) (X : zX) (A : zA) (i : Nat) : Nat → Nat → Nat
  | 0 => za_o0 T X i
  | j + 1 => za_h1 T X i j (A j 1) (za_h1 T X i j (A j 0) (za_of T X A i j))
def za_set (off : Nat → Nat) : Nat := zf_set fun e => decide (off e ≠ 0)
def za_hd (T : zT) (X : zX) (A : zA) (i : Nat) : Nat → Nat := za_of T X A i (zT_n T)
def za_s1 (T : zT) (X : zX) (A : zA) (i : Nat) : Nat := za_pk T X i (za_set (za_hd T X A i))
def za_s2 (T : zT) (X : zX) (A : zA) (i : Nat) : Nat := za_pk T X i (za_rm (za_set (za_hd T X A i)) (za_s1 T X A i))
def za_de (T : zT) (X : zX) (A : zA) (i : Nat) : Nat → Nat := fun k =>
  if za_s1 T X A i < 4 then
    if k = 0 then za_hd T X A i (za_s1 T X A i)
    else if k = 1 ∧ (zX_ex X).testBit i = true ∧ za_s2 T X A i < 4 then za_hd T X A i (za_s2 T X A i) else 0
  else 0
def za_st (T : zT) (X : zX) (A : zA) (i : Nat) : zA := fun j => if j = i then za_de T X A i else A j
def za_rd (T : zT) (X : zX) (A : zA) : zA := fun j => if j < zT_n T then za_de T X A j else A j
/-- what is sound -/
def zT_ok (T : zT) : Prop := 1 ≤ zT_n T ∧ zT_n T ≤ 5 ∧ zT_m T ≤ 4 ∧ (∀ k, zT_se T k ≤ 3) ∧ (∀ i j, i < 5 → j < 5 → (zT_n T ≤ i ∨ zT_n T ≤ j ∨ i = j) → zT_se T (5 * i + j) = 0) ∧ (∀ i j, i < 5 → j < 5 → zT_se T (5 * i + j) ≠ 0 → zT_se T (5 * j + i) ≠ 0) ∧ (∀ e, zT_pl T e < 5) ∧ (∀ e, e < zT_m T → zT_pl T e < zT_n T) ∧ (∀ e, zT_ne T e ≤ 2) ∧ (∀ e, zT_pa T e ≤ 5)
def zX_ok (T : zT) (X : zX) : Prop := (∀ k, zX_co X k ≤ 9) ∧ (∀ i j, i < 5 → j < 5 → (zT_n T ≤ i ∨ zT_n T ≤ j ∨ i = j) → zX_co X (5 * i + j) = 0) ∧ (∀ i j, i < 5 → j < 5 → zX_co X (5 * i + j) = zX_co X (5 * j + i)) ∧ (∀ e, zX_we X e ≤ 5) ∧ zX_up X < 2 ^ zT_m T ∧ zX_ex X < 2 ^ zT_n T ∧ zX_mo X ≤ 2
def za_R (T : zT) (j c : Nat) : Prop := c = 0 ∨ (1024 ≤ c ∧ c < 2048 ∧ zc_e c < zT_m T ∧ zc_f c < zT_n T ∧ (zT_pl T (zc_e c) ≠ j → (zc_m c).testBit (zT_pl T (zc_e c)) = true))
def za_W (T : zT) (A : zA) : Prop := (∀ j k, za_R T j (A j k)) ∧ (∀ j, A j 0 = 0 → A j 1 = 0) ∧ (∀ j k, zT_n T ≤ j ∨ 2 ≤ k → A j k = 0)
theorem za_R_lt {T : zT} {j c : Nat} (h : za_R T j c) : c < 2048 := by
  rcases h with h | h
  · omega
  · exact h.2.1
theorem zf_lo_in {a : Nat} (h : zf_lo a < 4) : a.testBit (zf_lo a) = true := by
  unfold zf_lo at h ⊢
  cases h0 : a.testBit 0 <;> cases h1 : a.testBit 1 <;> cases h2 : a.testBit 2 <;> cases h3 : a.testBit 3 <;> simp [h0, h1, h2, h3] at h ⊢
theorem zf_lo_le (a : Nat) : zf_lo a ≤ 4 := by
  unfold zf_lo
  cases a.testBit 0 <;> cases a.testBit 1 <;> cases a.testBit 2 <;> cases a.testBit 3 <;> decide
theorem zf_nb_sub {a : Nat} {ne we : Nat → Int32} {e : Nat} (he : e < 4) (h : (zf_nb a ne we).testBit e = true) : a.testBit e = true := ((zf_nb_tb he).mp h).1
theorem zf_r2_sub {mo a : Nat} {ne we : Nat → Int32} {e : Nat} (he : e < 4) (h : (zf_r2 mo a ne we).testBit e = true) : a.testBit e = true := by
  unfold zf_r2 at h
  split at h
  · exact zf_nb_sub he h
  · split at h
    · exact zf_mn_sub he h
    · exact h
theorem zf_ow_sub {b ho e : Nat} (h : (zf_ow b ho).testBit e = true) : b.testBit e = true := by
  unfold zf_ow at h
  split at h
  · exact h
  · rw [Nat.testBit_and, Bool.and_eq_true] at h; exact h.1
theorem zf_pk_in {s : Nat} {pa ne we di : Nat → Int32} {ho mo : Nat} (h : zf_pk s pa ne we di ho mo < 4) : s.testBit (zf_pk s pa ne we di ho mo) = true := by
  have h1 := zf_lo_in (show zf_lo (zf_mn (zf_ow (zf_r2 mo (zf_mn s pa) ne we) ho) di) < 4 from h)
  exact zf_mn_sub h (zf_r2_sub h (zf_ow_sub (zf_mn_sub h h1)))
theorem zf_pk_le {s : Nat} {pa ne we di : Nat → Int32} {ho mo : Nat} : zf_pk s pa ne we di ho mo ≤ 4 := zf_lo_le _
theorem zf_mn_congr {s : Nat} {k1 k2 : Nat → Int32} (h : ∀ e, e < 4 → s.testBit e = true → k1 e = k2 e) : zf_mn s k1 = zf_mn s k2 := by
  refine zs_ext (zf_mn_lt _ _) (zf_mn_lt _ _) fun e he => ?_
  rw [Bool.eq_iff_iff, zf_mn_tb he, zf_mn_tb he]
  unfold zf_mk
  constructor
  · rintro ⟨q1, q2, q3⟩
    exact ⟨q1, q2, fun f hf hs => by rw [← h f hf hs, ← h e he q2]; exact q3 f hf hs⟩
  · rintro ⟨q1, q2, q3⟩
    exact ⟨q1, q2, fun f hf hs => by rw [h f hf hs, h e he q2]; exact q3 f hf hs⟩
theorem zf_nb_congr {s : Nat} {n1 n2 k1 k2 : Nat → Int32} (hn : ∀ e, e < 4 → s.testBit e = true → n1 e = n2 e) (h : ∀ e, e < 4 → s.testBit e = true → k1 e = k2 e) : zf_nb s n1 k1 = zf_nb s n2 k2 := by
  refine zs_ext (zf_nb_lt _ _ _) (zf_nb_lt _ _ _) fun e he => ?_
  rw [Bool.eq_iff_iff, zf_nb_tb he, zf_nb_tb he]
  constructor
  · rintro ⟨q1, q2⟩
    exact ⟨q1, fun f hf hs hx => by rw [← h f hf hs, ← h e he q1]; exact q2 f hf hs (by rw [hn f hf hs, hn e he q1]; exact hx)⟩
  · rintro ⟨q1, q2⟩
    exact ⟨q1, fun f hf hs hx => by rw [h f hf hs, h e he q1]; exact q2 f hf hs (by rw [← hn f hf hs, ← hn e he q1]; exact hx)⟩
theorem zf_pk_congr {s ho mo : Nat} {p1 p2 n1 n2 w1 w2 d1 d2 : Nat → Int32} (hp : ∀ e, e < 4 → s.testBit e = true → p1 e = p2 e) (hn : ∀ e, e < 4 → s.testBit e = true → n1 e = n2 e) (hw : ∀ e, e < 4 → s.testBit e = true → w1 e = w2 e) (hd : ∀ e, e < 4 → s.testBit e = true → d1 e = d2 e) : zf_pk s p1 n1 w1 d1 ho mo = zf_pk s p2 n2 w2 d2 ho mo := by
  unfold zf_pk
  rw [zf_mn_congr hp]
  have hr : zf_r2 mo (zf_mn s p2) n1 w1 = zf_r2 mo (zf_mn s p2) n2 w2 := by
    unfold zf_r2
    rw [zf_nb_congr (fun e he hs => hn e he (zf_mn_sub he hs)) (fun e he hs => hw e he (zf_mn_sub he hs)), zf_mn_congr (fun e he hs => hw e he (zf_mn_sub he hs))]
  rw [hr, zf_mn_congr (fun e he hs => hd e he (zf_mn_sub he (zf_r2_sub he (zf_ow_sub hs))))]
theorem za_pk_in {T : zT} {X : zX} {i s : Nat} (h : za_pk T X i s < 4) : s.testBit (za_pk T X i s) = true := zf_pk_in h
theorem za_pk_le (T : zT) (X : zX) (i s : Nat) : za_pk T X i s ≤ 4 := zf_pk_le
theorem za_set_lt (off : Nat → Nat) : za_set off < 16 := zf_set_lt _
theorem za_set_tb {off : Nat → Nat} {e : Nat} (he : e < 4) : (za_set off).testBit e = decide (off e ≠ 0) := by
  unfold za_set
  rw [zf_set_tb]
  simp [he]
/-- marks stay small -/
theorem zo32 {a j : Nat} (ha : a < 32) (hj : j < 5) : (a ||| 2 ^ j) < 32 := by
  have : 2 ^ j ≤ 2 ^ 4 := Nat.pow_le_pow_right (by decide) (by omega)
  exact Nat.or_lt_two_pow (n := 5) ha (by omega)
/-- an offer at a router: to an exit, sound, from itself just if the exit is there -/
def za_F (T : zT) (i : Nat) (off : Nat → Nat) (n : Nat) : Prop := ∀ e, off e ≠ 0 → e < zT_m T ∧ e < 4 ∧ ∃ f mk, off e = zc_k e f mk ∧ f < zT_n T ∧ mk < 32 ∧ ((f = i ∧ mk = 0 ∧ zT_pl T e = i) ∨ (f < n ∧ f ≠ i ∧ 0 < za_pc mk ∧ zT_pl T e ≠ i ∧ mk.testBit (zT_pl T e) = true))
theorem za_F0 {T : zT} {X : zX} {i : Nat} (hi : i < zT_n T) : za_F T i (za_o0 T X i) 0 := by
  intro e he
  unfold za_o0 at he ⊢
  by_cases h : e < 4 ∧ za_ow T X i e = true
  · rw [if_pos h]
    have h2 := h.2
    unfold za_ow za_at at h2
    simp only [Bool.and_eq_true, decide_eq_true_eq] at h2
    exact ⟨h2.1.1, h.1, i, 0, rfl, hi, by decide, Or.inl ⟨rfl, rfl, h2.1.2⟩⟩
  · rw [if_neg h] at he
    exact absurd rfl he
theorem za_F1 {T : zT} {X : zX} {i j c n : Nat} {off : Nat → Nat} (hT : zT_ok T) (hj : j < zT_n T) (hc : za_R T j c) (hF : za_F T i off n) (hn : n ≤ j + 1) : za_F T i (za_h1 T X i j c off) (j + 1) := by
  have wk : za_F T i off (j + 1) := by
    intro e he
    obtain ⟨h1, h2, f, mk, h3, h4, h5, h6⟩ := hF e he
    refine ⟨h1, h2, f, mk, h3, h4, h5, ?_⟩
    rcases h6 with h6 | h6
    · exact Or.inl h6
    · exact Or.inr ⟨by omega, h6.2⟩
  unfold za_h1
  by_cases h : za_ok T X i j c = true
  · rw [if_pos h]
    by_cases hb : za_be off j c = true
    · rw [if_pos hb]
      intro e he
      by_cases hec : e = zc_e c
      · subst hec
        simp only [if_pos rfl]
        unfold za_ok at h
        simp only [Bool.and_eq_true, decide_eq_true_eq, Bool.not_eq_true'] at h
        obtain ⟨h0, h1, h2, h3⟩ := h
        rcases hc with hc | ⟨c1, c2, c3, c4, c5⟩
        · exact absurd hc h0
        have hj5 : j < 5 := by have := hT.2.1; omega
        rw [Nat.testBit_or, Bool.or_eq_false_iff] at h2
        have hij : j ≠ i := by
          intro q
          rw [q, Nat.testBit_two_pow_self] at h2
          exact absurd h2.2 (by decide)
        refine ⟨c3, zc_e_lt c, j, zc_m c ||| 2 ^ j, rfl, hj, zo32 (zc_m_lt c) hj5, Or.inr ⟨by omega, hij, za_pc_pos hj5, ?_, ?_⟩⟩
        · intro q
          have := c5 (by rw [q]; exact fun z => hij z.symm)
          rw [q, h2.1] at this
          exact absurd this (by decide)
        · rw [Nat.testBit_or, Bool.or_eq_true]
          by_cases hp : zT_pl T (zc_e c) = j
          · right; rw [hp, Nat.testBit_two_pow_self]
          · left; exact c5 hp
      · simp only [if_neg hec] at he ⊢
        exact wk e he
    · rw [if_neg hb]; exact wk
  · rw [if_neg h]; exact wk
theorem za_Fn {T : zT} {X : zX} {A : zA} {i : Nat} (hT : zT_ok T) (hW : za_W T A) (hi : i < zT_n T) : ∀ j, j ≤ zT_n T → za_F T i (za_of T X A i j) j := by
  intro j
  induction j with
  | zero => intro _; exact za_F0 hi
  | succ j ih =>
    intro hj
    exact za_F1 hT (by omega) (hW.1 j 1) (za_F1 hT (by omega) (hW.1 j 0) (ih (by omega)) (by omega)) (by omega)
theorem za_hd_R {T : zT} {X : zX} {A : zA} {i : Nat} (hT : zT_ok T) (hW : za_W T A) (hi : i < zT_n T) (e : Nat) : za_R T i (za_hd T X A i e) := by
  by_cases h0 : za_hd T X A i e = 0
  · exact Or.inl h0
  · obtain ⟨h1, h2, f, mk, h3, h4, h5, h6⟩ := za_Fn hT hW hi (X := X) (zT_n T) (Nat.le_refl _) e h0
    have hn := hT.2.1
    have h3' : za_hd T X A i e = zc_k e f mk := h3
    rw [h3']
    refine Or.inr ⟨zc_k_ge _ _ _, zc_k_lt h2 (by omega) h5, ?_, ?_, ?_⟩
    · rw [zc_ek h2 (by omega) h5]; exact h1
    · rw [zc_fk (by omega) h5]; exact h4
    · rw [zc_ek h2 (by omega) h5, zc_mk h5]
      intro hp
      rcases h6 with h6 | h6
      · exact absurd h6.2.2 hp
      · exact h6.2.2.2.2
theorem za_de_R {T : zT} {X : zX} {A : zA} {i : Nat} (hT : zT_ok T) (hW : za_W T A) (hi : i < zT_n T) (k : Nat) : za_R T i (za_de T X A i k) := by
  unfold za_de
  split
  · split
    · exact za_hd_R hT hW hi _
    · split
      · exact za_hd_R hT hW hi _
      · exact Or.inl rfl
  · exact Or.inl rfl
theorem za_s1_ne {T : zT} {X : zX} {A : zA} {i : Nat} (h : za_s1 T X A i < 4) : za_hd T X A i (za_s1 T X A i) ≠ 0 := by
  have this : (za_set (za_hd T X A i)).testBit (za_s1 T X A i) = true := za_pk_in h
  rw [za_set_tb h] at this
  exact of_decide_eq_true this
theorem za_de_W {T : zT} {X : zX} {A : zA} {i : Nat} (h : za_de T X A i 0 = 0) : za_de T X A i 1 = 0 := by
  unfold za_de at h ⊢
  by_cases h4 : za_s1 T X A i < 4
  · rw [if_pos h4, if_pos rfl] at h
    exact absurd h (za_s1_ne h4)
  · rw [if_neg h4]
theorem za_de_2 {T : zT} {X : zX} {A : zA} {i k : Nat} (hk : 2 ≤ k) : za_de T X A i k = 0 := by
  unfold za_de
  split
  · rw [if_neg (by omega), if_neg (by omega)]
  · rfl
theorem za_st_W {T : zT} {X : zX} {A : zA} {i : Nat} (hT : zT_ok T) (hW : za_W T A) (hi : i < zT_n T) : za_W T (za_st T X A i) := by
  refine ⟨fun j k => ?_, fun j => ?_, fun j k hjk => ?_⟩
  · unfold za_st
    split
    · rename_i h; subst h; exact za_de_R hT hW hi k
    · exact hW.1 j k
  · unfold za_st
    split
    · exact za_de_W
    · exact hW.2.1 j
  · unfold za_st
    split
    · rename_i h
      subst h
      exact za_de_2 (by omega)
    · exact hW.2.2 j k hjk
theorem za_rd_W {T : zT} {X : zX} {A : zA} (hT : zT_ok T) (hW : za_W T A) : za_W T (za_rd T X A) := by
  refine ⟨fun j k => ?_, fun j => ?_, fun j k hjk => ?_⟩
  · unfold za_rd
    split
    · rename_i h; exact za_de_R hT hW h k
    · exact hW.1 j k
  · unfold za_rd
    split
    · exact za_de_W
    · exact hW.2.1 j
  · unfold za_rd
    split
    · exact za_de_2 (by omega)
    · exact hW.2.2 j k hjk
