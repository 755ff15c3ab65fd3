/-! ===== which exit a router takes of a set: the class ===== -/
def zf_ex (m : Nat) (ne : Nat → Int32) (v : Int32) (k : Nat) : Nat := zf_set fun e => decide (e < k) && (decide (e < m) && decide (ne e = v))
theorem zf_ex_lt (m : Nat) (ne : Nat → Int32) (v : Int32) (k : Nat) : zf_ex m ne v k < 16 := zf_set_lt _
theorem z2k {k : Nat} (h : k < 4) : 2 ^ k < 16 := by
  have : 2 ^ k ≤ 2 ^ 3 := Nat.pow_le_pow_right (by decide) (by omega)
  omega
theorem zf_ex_s {m : Nat} {ne : Nat → Int32} {v : Int32} {k : Nat} (hk : k < 4) (hm : k < m) : zf_ex m ne v (k + 1) = zf_ex m ne v k ||| (if ne k = v then 2 ^ k else 0) := by
  have h2 := z2k hk
  refine zs_ext (zf_ex_lt _ _ _ _) (Nat.or_lt_two_pow (n := 4) (zf_ex_lt _ _ _ _) (by split <;> omega)) fun e he => ?_
  rw [Nat.testBit_or]
  unfold zf_ex
  rw [zf_set_tb, zf_set_tb]
  by_cases hek : e = k
  · subst hek
    by_cases hv : ne e = v
    · rw [if_pos hv, Nat.testBit_two_pow_self]; simp [hv, hm, he]
    · rw [if_neg hv, Nat.zero_testBit]; simp [hv]
  · have h1 : decide (e < k + 1) = decide (e < k) := by
      rw [decide_eq_decide]; omega
    rw [h1]
    split
    · rw [Nat.testBit_two_pow_of_ne (fun q => hek q.symm), Bool.or_false]
    · rw [Nat.zero_testBit, Bool.or_false]
theorem ev_exitsTo {dp : Nat} (Dm : zv_D) {m : Nat} (v : Int32) (hm : Dm.1 9 1 = nI m) (h4 : m ≤ 4) : zv_ev (dp + 1) 26 [.ref 9, .int v] zS0 Dm = zo_i (nI (zf_ex m (Dm.1 13) v 4)) Dm := by
  refine zs_X3_exitsTo ((zd_X3_exitsTo _ Dm.1 Dm.2 _).trans ?_)
  have key : ∀ j k, k + j = m → zv_m zt_X3_exitsTo (zv_ev dp) false 4 [some (.ref 9), some (.int v), some (.int (nI (zf_ex m (Dm.1 13) v k))), some (.int (nI k))] [] zS0 (Dm.1, Dm.2) = zv_ri (nI (zf_ex m (Dm.1 13) v 4)) zS0 (Dm.1, Dm.2) := by
    intro j
    induction j with
    | zero =>
      intro k hk
      rw [zd_X3_exitsTo_4, hm, if_pos (nI_le (by omega) (by omega))]
      congr 2
      unfold zf_ex
      apply congrArg
      funext e
      by_cases he : e < m
      · have h1 : e < k := by omega
        have h2 : e < 4 := by omega
        simp [he, h1, h2]
      · simp [he]
    | succ j ih =>
      intro k hk
      have hkm : k < m := by omega
      rw [zd_X3_exitsTo_4, hm, if_neg (nI_ge hkm (by omega)), if_neg (zi_ge 4 4 rfl (by omega) (by decide)), zi_in (by omega) (by decide), nI_clamp (by omega), nI_1, zi_sh (by omega)]
      have hs := zf_ex_s (ne := Dm.1 13) (v := v) (by omega : k < 4) hkm
      by_cases hv : Dm.1 13 k = v
      · rw [if_pos hv] at hs
        rw [if_pos hv, cond_true, zi_or (by have := zf_ex_lt m (Dm.1 13) v k; omega) (by have := z2k (k := k) (by omega); omega), ← hs]
        exact ih (k + 1) (by omega)
      · rw [if_neg hv, Nat.or_zero] at hs
        rw [if_neg hv, cond_true, Int32.or_zero, ← hs]
        exact ih (k + 1) (by omega)
  have h0 : zf_ex m (Dm.1 13) v 0 = 0 := by
    unfold zf_ex zf_set
    simp
  have := key m 0 (by omega)
  rw [h0] at this
  exact this
/-- those for which no other to the same neighbour weighs less -/
def zf_nb (a : Nat) (ne we : Nat → Int32) : Nat := zf_set fun e => a.testBit e && (List.range 4).all fun f => !(a.testBit f) || (!(decide (ne f = ne e)) || !(decide (we f < we e)))
theorem zf_nb_lt (a : Nat) (ne we : Nat → Int32) : zf_nb a ne we < 16 := zf_set_lt _
theorem zf_nb_tb {a : Nat} {ne we : Nat → Int32} {e : Nat} (he : e < 4) : (zf_nb a ne we).testBit e = true ↔ a.testBit e = true ∧ ∀ f, f < 4 → a.testBit f = true → ne f = ne e → ¬ we f < we e := by
  unfold zf_nb
  rw [zf_set_tb]
  simp only [he, decide_true, Bool.true_and, Bool.and_eq_true, List.all_eq_true, List.mem_range, Bool.or_eq_true, Bool.not_eq_true', decide_eq_false_iff_not]
  constructor
  · rintro ⟨h1, h2⟩
    exact ⟨h1, fun f hf hs hn => ((h2 f hf).resolve_left (by rw [hs]; decide)).resolve_left (fun q => q hn)⟩
  · rintro ⟨h1, h2⟩
    refine ⟨h1, fun f hf => ?_⟩
    cases hs : a.testBit f with
    | false => exact Or.inl rfl
    | true =>
      by_cases hn : ne f = ne e
      · exact Or.inr (Or.inr (h2 f hf hs hn))
      · exact Or.inr (Or.inl hn)
def zf_r2 (mo a : Nat) (ne we : Nat → Int32) : Nat := if mo = 0 then zf_nb a ne we else if mo = 1 then zf_mn a we else a
def zf_lo (a : Nat) : Nat := if a.testBit 0 = true then 0 else if a.testBit 1 = true then 1 else if a.testBit 2 = true then 2 else if a.testBit 3 = true then 3 else 4
def zf_ow (b ho : Nat) : Nat := if b &&& ho = 0 then b else b &&& ho
def zf_pk (s : Nat) (pa ne we di : Nat → Int32) (ho mo : Nat) : Nat := zf_lo (zf_mn (zf_ow (zf_r2 mo (zf_mn s pa) ne we) ho) di)
def zf_pi (p : Nat) : Int32 := if p = 4 then -1 else nI p
theorem zf_mn_sub {s : Nat} {ky : Nat → Int32} {e : Nat} (he : e < 4) (h : (zf_mn s ky).testBit e = true) : s.testBit e = true := ((zf_mn_tb he).mp h).2.1
theorem zf_r2_lt {mo a : Nat} {ne we : Nat → Int32} (ha : a < 16) : zf_r2 mo a ne we < 16 := by
  unfold zf_r2
  split
  · exact zf_nb_lt _ _ _
  · split
    · exact zf_mn_lt _ _
    · exact ha
theorem zf_ow_lt {b ho : Nat} (hb : b < 16) : zf_ow b ho < 16 := by
  unfold zf_ow
  split
  · exact hb
  · exact Nat.lt_of_le_of_lt Nat.and_le_left hb
/-- the union over the neighbours -/
theorem zf_nb_union {a m : Nat} {ne we : Nat → Int32} (ha : ∀ e, e < 4 → a.testBit e = true → e < m ∧ (ne e = 0 ∨ ne e = 1 ∨ ne e = 2)) :
    ((0 ||| zf_mn (a &&& zf_ex m ne 0 4) we) ||| zf_mn (a &&& zf_ex m ne 1 4) we) ||| zf_mn (a &&& zf_ex m ne 2 4) we = zf_nb a ne we := by
  have key : ∀ v e, e < 4 → ((zf_mn (a &&& zf_ex m ne v 4) we).testBit e = true ↔ ne e = v ∧ a.testBit e = true ∧ ∀ f, f < 4 → a.testBit f = true → ne f = ne e → ¬ we f < we e) := by
    intro v e he
    have hx : ∀ f, f < 4 → ((a &&& zf_ex m ne v 4).testBit f = true ↔ a.testBit f = true ∧ ne f = v) := by
      intro f hf
      rw [Nat.testBit_and, Bool.and_eq_true]
      unfold zf_ex
      rw [zf_set_tb]
      simp only [hf, decide_true, Bool.true_and, Bool.and_eq_true, decide_eq_true_eq]
      constructor
      · rintro ⟨q1, q2, q3⟩; exact ⟨q1, q3⟩
      · rintro ⟨q1, q3⟩; exact ⟨q1, (ha f hf q1).1, q3⟩
    rw [zf_mn_tb he]
    unfold zf_mk
    constructor
    · rintro ⟨-, q2, q3⟩
      obtain ⟨r1, r2⟩ := (hx e he).mp q2
      exact ⟨r2, r1, fun f hf hs hn => q3 f hf ((hx f hf).mpr ⟨hs, by rw [hn, r2]⟩)⟩
    · rintro ⟨q1, q2, q3⟩
      refine ⟨he, (hx e he).mpr ⟨q2, q1⟩, fun f hf hs => ?_⟩
      obtain ⟨r1, r2⟩ := (hx f hf).mp hs
      exact q3 f hf r1 (by rw [r2, q1])
  have l0 := zf_mn_lt (a &&& zf_ex m ne 0 4) we
  have l1 := zf_mn_lt (a &&& zf_ex m ne 1 4) we
  have l2 := zf_mn_lt (a &&& zf_ex m ne 2 4) we
  rw [Nat.zero_or]
  refine zs_ext (Nat.or_lt_two_pow (n := 4) (Nat.or_lt_two_pow (n := 4) l0 l1) l2) (zf_nb_lt _ _ _) fun e he => ?_
  rw [Bool.eq_iff_iff, Nat.testBit_or, Nat.testBit_or, Bool.or_eq_true, Bool.or_eq_true, key 0 e he, key 1 e he, key 2 e he, zf_nb_tb he]
  constructor
  · rintro ((⟨-, h⟩ | ⟨-, h⟩) | ⟨-, h⟩) <;> exact h
  · intro h
    rcases (ha e he h.1).2 with q | q | q
    · exact Or.inl (Or.inl ⟨q, h⟩)
    · exact Or.inl (Or.inr ⟨q, h⟩)
    · exact Or.inr ⟨q, h⟩
theorem zi_tb16 {s k : Nat} (hs : s < 16) (hk : k < 4) : (((nI s >>> (nI k &&& 31)) &&& 1) = 1) = (s.testBit k = true) := zi_tb (by omega) (by omega)
theorem zx_cmp167_16 (ca : zv_Ca) (g : Nat → Nat → Int32) (h : Nat → Nat → Int64) (u0 u1 u2 u4 : Option Value) {a : Nat} (ha : a < 16) : zv_m zt_X6_compare ca false 167 [u0, u1, u2, some (.int (nI a)), u4, some (.int 0)] [] zS0 (g, h) = zv_ri (zf_pi (zf_lo a)) zS0 (g, h) := by
  have st : ∀ k, k < 4 → zv_m zt_X6_compare ca false 167 [u0, u1, u2, some (.int (nI a)), u4, some (.int (nI k))] [] zS0 (g, h) = if a.testBit k = true then zv_ri (nI k) zS0 (g, h) else zv_m zt_X6_compare ca false 167 [u0, u1, u2, some (.int (nI a)), u4, some (.int (nI (k + 1)))] [] zS0 (g, h) := by
    intro k hk
    rw [zd_X6_compare_16_167, if_neg (zi_ge 4 4 rfl hk (by decide)), nI_1]
    simp only [zi_tb16 ha hk]
  have e4 : zv_m zt_X6_compare ca false 167 [u0, u1, u2, some (.int (nI a)), u4, some (.int (nI 4))] [] zS0 (g, h) = zv_ri (-1) zS0 (g, h) := by
    rw [zd_X6_compare_16_167, if_pos (zi_le 4 4 rfl (by decide) (by decide))]
  refine (st 0 (by decide)).trans ?_
  rw [st 1 (by decide), st 2 (by decide), st 3 (by decide), e4]
  unfold zf_pi zf_lo
  cases a.testBit 0 <;> cases a.testBit 1 <;> cases a.testBit 2 <;> cases a.testBit 3 <;> rfl
/-- the distances of the exits are laid into the keys -/
theorem zx_cmp111_16 {dp : Nat} (g : Nat → Nat → Int32) (h : Nat → Nat → Int64) {i a o : Nat} (u2 : Option Value) (pl : Nat → Nat) (hi : i < 5) (ha : a < 16) (ho : o < 16) (hpl : ∀ e, e < 4 → g 12 e = nI (pl e) ∧ pl e < 5) : ∃ g', (∀ c, c ≠ 24 → g' c = g c) ∧
    zv_m zt_X6_compare (zv_ev (dp + 1)) false 111 [some (.ref 16), some (.int (nI i)), u2, some (.int (nI a)), some (.int (nI o)), some (.int 0)] [] zS0 (g, h) = zv_ri (zf_pi (zf_lo (zf_mn (if o = 0 then a else o) fun e => g 22 (5 * i + pl e)))) zS0 (g', h) := by
  have key : ∀ j k g', k + j = 4 → (∀ c, c ≠ 24 → g' c = g c) → (∀ e, e < k → g' 24 e = g 22 (5 * i + pl e)) → ∃ g'', (∀ c, c ≠ 24 → g'' c = g c) ∧
      zv_m zt_X6_compare (zv_ev (dp + 1)) false 111 [some (.ref 16), some (.int (nI i)), u2, some (.int (nI a)), some (.int (nI o)), some (.int (nI k))] [] zS0 (g', h) = zv_ri (zf_pi (zf_lo (zf_mn (if o = 0 then a else o) fun e => g 22 (5 * i + pl e)))) zS0 (g'', h) := by
    intro j
    induction j with
    | zero =>
      intro k g' hk hc he
      refine ⟨g', hc, ?_⟩
      rw [zd_X6_compare_16_111, if_pos (zi_le 4 4 rfl (by omega) (by omega))]
      have hmn : ∀ z, zf_mn z (g' 24) = zf_mn z (fun e => g 22 (5 * i + pl e)) := by
        intro z
        refine zs_ext (zf_mn_lt _ _) (zf_mn_lt _ _) fun e he4 => ?_
        rw [Bool.eq_iff_iff, zf_mn_tb he4, zf_mn_tb he4]
        unfold zf_mk
        constructor
        · rintro ⟨q1, q2, q3⟩
          exact ⟨q1, q2, fun f hf hs => by show ¬ g 22 (5 * i + pl f) < g 22 (5 * i + pl e); rw [← he f (by omega), ← he e (by omega)]; exact q3 f hf hs⟩
        · rintro ⟨q1, q2, q3⟩
          exact ⟨q1, q2, fun f hf hs => by rw [he f (by omega), he e (by omega)]; exact q3 f hf hs⟩
      have ho0 : (nI o = 0) ↔ o = 0 := nI_eq (a := o) (b := 0) (by omega) (by decide)
      by_cases h0 : o = 0
      · rw [if_pos (ho0.mpr h0), if_pos h0, ev_smallest_24 (g', h) ha]
        show zv_m zt_X6_compare _ false 167 [_, _, _, some (.int (nI (zf_mn a (g' 24)))), _, _] [] zS0 (g', h) = _
        rw [zx_cmp167_16 _ _ _ _ _ _ _ (zf_mn_lt _ _), hmn]
      · rw [if_neg (fun z => h0 (ho0.mp z)), if_neg h0, ev_smallest_24 (g', h) ho]
        show zv_m zt_X6_compare _ false 167 [_, _, _, some (.int (nI (zf_mn o (g' 24)))), _, _] [] zS0 (g', h) = _
        rw [zx_cmp167_16 _ _ _ _ _ _ _ (zf_mn_lt _ _), hmn]
    | succ j ih =>
      intro k g' hk hc he
      have hk4 : k < 4 := by omega
      rw [zd_X6_compare_16_111, if_neg (zi_ge 4 4 rfl hk4 (by decide)), zi_in hk4 (by decide), nI_clamp (by omega), nI_1, hc 12 (by decide), (hpl k hk4).1, ev_distance_16 (g', h) hi (hpl k hk4).2]
      refine ih (k + 1) (zv_w g' 24 k (g' 22 (5 * i + pl k))) (by omega) (fun c hc' => by rw [zw_cell _ _ _ hc']; exact hc c hc') (fun e hek => ?_)
      by_cases hek' : e = k
      · subst hek'
        rw [zw_same, hc 22 (by decide)]
      · rw [zw_other _ _ _ hek']
        exact he e (by omega)
  exact key 4 0 g (by omega) (fun _ _ => rfl) (fun e he => absurd he (Nat.not_lt_zero e))
theorem ev_compare_16 {dp : Nat} (Dm : zv_D) {i s m mo : Nat} {pl ho : Nat → Nat} (hi : i < 5) (hs : s < 16) (hsm : ∀ e, e < 4 → s.testBit e = true → e < m) (hm : Dm.1 9 1 = nI m) (h4 : m ≤ 4) (hpl : ∀ e, e < 4 → Dm.1 12 e = nI (pl e) ∧ pl e < 5) (hne : ∀ e, e < m → Dm.1 13 e = 0 ∨ Dm.1 13 e = 1 ∨ Dm.1 13 e = 2) (hho : Dm.1 15 i = nI (ho i)) (hho2 : ho i < 16) (hmo : Dm.1 17 5 = nI mo) (hmo2 : mo ≤ 2) :
    ∃ g', (∀ c, c ≠ 24 → g' c = Dm.1 c) ∧ zv_ev (dp + 2) 62 [.ref 16, .int (nI i), .int (nI s)] zS0 Dm = zo_i (zf_pi (zf_pk s (Dm.1 14) (Dm.1 13) (Dm.1 19) (fun e => Dm.1 22 (5 * i + pl e)) (ho i) mo)) (g', Dm.2) := by
  have hand : ∀ z, z < 16 → nI z &&& nI (ho i) = nI (z &&& ho i) := fun z hz => zi_and (by omega) (by omega)
  have a16 := zf_mn_lt s (Dm.1 14)
  -- behind rule 2
  have tail : ∀ (z : Nat) (u2 : Option Value), z < 16 → zf_r2 mo (zf_mn s (Dm.1 14)) (Dm.1 13) (Dm.1 19) = z → ∃ g', (∀ c, c ≠ 24 → g' c = Dm.1 c) ∧ zv_m zt_X6_compare (zv_ev (dp + 1)) false 111 [some (.ref 16), some (.int (nI i)), u2, some (.int (nI z)), some (.int (nI z &&& Dm.1 15 i)), some (.int 0)] [] zS0 (Dm.1, Dm.2) = zv_ri (zf_pi (zf_pk s (Dm.1 14) (Dm.1 13) (Dm.1 19) (fun e => Dm.1 22 (5 * i + pl e)) (ho i) mo)) zS0 (g', Dm.2) := by
    intro z u2 hz hzr
    rw [hho, hand z hz]
    obtain ⟨g', q1, q2⟩ := zx_cmp111_16 (dp := dp) Dm.1 Dm.2 (a := z) (o := z &&& ho i) u2 pl hi hz (Nat.lt_of_le_of_lt Nat.and_le_left hz) hpl
    refine ⟨g', q1, q2.trans ?_⟩
    unfold zf_pk zf_ow
    rw [hzr]
  have start : ∃ g', (∀ c, c ≠ 24 → g' c = Dm.1 c) ∧ zv_m zt_X6_compare (zv_ev (dp + 1)) false 0 [some (.ref 16), some (.int (nI i)), some (.int (nI s)), none, none, none] [] zS0 (Dm.1, Dm.2) = zv_ri (zf_pi (zf_pk s (Dm.1 14) (Dm.1 13) (Dm.1 19) (fun e => Dm.1 22 (5 * i + pl e)) (ho i) mo)) zS0 (g', Dm.2) := by
    rw [zd_X6_compare_16, ev_smallest_14 (Dm.1, Dm.2) hs]
    simp only [Option.bind_some, hmo]
    have m0 : (nI mo = 0) ↔ mo = 0 := nI_eq (a := mo) (b := 0) (by omega) (by decide)
    have m1 : (nI mo = 1) ↔ mo = 1 := nI_eq (a := mo) (b := 1) (by omega) (by decide)
    by_cases h0 : mo = 0
    · rw [if_pos (m0.mpr h0)]
      have step : ∀ (v : Nat) (w : Nat), v < 3 → w < 16 → zv_m zt_X6_compare (zv_ev (dp + 1)) false 28 [some (.ref 16), some (.int (nI i)), some (.int (nI s)), some (.int (nI (zf_mn s (Dm.1 14)))), some (.int (nI w)), some (.int (nI v))] [] zS0 (Dm.1, Dm.2) = zv_m zt_X6_compare (zv_ev (dp + 1)) false 28 [some (.ref 16), some (.int (nI i)), some (.int (nI s)), some (.int (nI (zf_mn s (Dm.1 14)))), some (.int (nI (w ||| zf_mn (zf_mn s (Dm.1 14) &&& zf_ex m (Dm.1 13) (nI v) 4) (Dm.1 19)))), some (.int (nI (v + 1)))] [] zS0 (Dm.1, Dm.2) := by
        intro v w hv hw
        have hx := zf_ex_lt m (Dm.1 13) (nI v) 4
        have hy := zf_mn_lt (zf_mn s (Dm.1 14) &&& zf_ex m (Dm.1 13) (nI v) 4) (Dm.1 19)
        rw [zd_X6_compare_16_28, if_neg (show ¬ (2 : Int32) < nI v from nI_nlt (a := 2) (b := v) (by omega) (by decide)), ev_exitsTo (Dm.1, Dm.2) (nI v) hm h4, nI_1]
        simp only [Option.bind_some]
        rw [zi_and (by omega) (by omega), ev_smallest_19 (Dm.1, Dm.2) (Nat.lt_of_le_of_lt Nat.and_le_left a16)]
        simp only [Option.bind_some]
        rw [zi_or (by omega) (by omega)]
      have l0 := zf_mn_lt (zf_mn s (Dm.1 14) &&& zf_ex m (Dm.1 13) (nI 0) 4) (Dm.1 19)
      have l1 := zf_mn_lt (zf_mn s (Dm.1 14) &&& zf_ex m (Dm.1 13) (nI 1) 4) (Dm.1 19)
      have hun : ((0 ||| zf_mn (zf_mn s (Dm.1 14) &&& zf_ex m (Dm.1 13) (nI 0) 4) (Dm.1 19)) ||| zf_mn (zf_mn s (Dm.1 14) &&& zf_ex m (Dm.1 13) (nI 1) 4) (Dm.1 19)) ||| zf_mn (zf_mn s (Dm.1 14) &&& zf_ex m (Dm.1 13) (nI 2) 4) (Dm.1 19) = zf_nb (zf_mn s (Dm.1 14)) (Dm.1 13) (Dm.1 19) :=
        zf_nb_union (fun e he hb => ⟨hsm e he (zf_mn_sub he hb), hne e (hsm e he (zf_mn_sub he hb))⟩)
      have e0 := step 0 0 (by decide) (by decide)
      have e1 := step 1 _ (by decide) (Nat.or_lt_two_pow (n := 4) (by decide : 0 < 2 ^ 4) l0)
      have e2 := step 2 _ (by decide) (Nat.or_lt_two_pow (n := 4) (Nat.or_lt_two_pow (n := 4) (by decide : 0 < 2 ^ 4) l0) l1)
      rw [hun] at e2
      refine (tail (zf_nb (zf_mn s (Dm.1 14)) (Dm.1 13) (Dm.1 19)) (some (.int (nI s))) (zf_nb_lt _ _ _) (by unfold zf_r2; rw [if_pos h0])).imp fun g' hg => ⟨hg.1, ?_⟩
      refine (e0.trans (e1.trans e2)).trans ?_
      rw [zd_X6_compare_16_28, if_pos (show (2 : Int32) < nI 3 by decide), zi_in hi (by decide), nI_clamp (by omega)]
      exact hg.2
    · rw [if_neg (fun z => h0 (m0.mp z))]
      by_cases h1 : mo = 1
      · rw [if_pos (m1.mpr h1), ev_smallest_19 (Dm.1, Dm.2) a16]
        simp only [Option.bind_some]
        rw [zi_in hi (by decide), nI_clamp (by omega)]
        exact tail _ _ (zf_mn_lt _ _) (by unfold zf_r2; rw [if_neg h0, if_pos h1])
      · rw [if_neg (fun z => h1 (m1.mp z)), zi_in hi (by decide), nI_clamp (by omega)]
        exact tail _ _ a16 (by unfold zf_r2; rw [if_neg h0, if_neg h1])
  exact start.imp fun g' hg => ⟨hg.1, zs_X6_compare_16 hg.2⟩
theorem zx_cmp167_27 (ca : zv_Ca) (g : Nat → Nat → Int32) (h : Nat → Nat → Int64) (u0 u1 u2 u4 : Option Value) {a : Nat} (ha : a < 16) : zv_m zt_X6_compare ca false 167 [u0, u1, u2, some (.int (nI a)), u4, some (.int 0)] [] zS0 (g, h) = zv_ri (zf_pi (zf_lo a)) zS0 (g, h) := by
  have st : ∀ k, k < 4 → zv_m zt_X6_compare ca false 167 [u0, u1, u2, some (.int (nI a)), u4, some (.int (nI k))] [] zS0 (g, h) = if a.testBit k = true then zv_ri (nI k) zS0 (g, h) else zv_m zt_X6_compare ca false 167 [u0, u1, u2, some (.int (nI a)), u4, some (.int (nI (k + 1)))] [] zS0 (g, h) := by
    intro k hk
    rw [zd_X6_compare_27_167, if_neg (zi_ge 4 4 rfl hk (by decide)), nI_1]
    simp only [zi_tb16 ha hk]
  have e4 : zv_m zt_X6_compare ca false 167 [u0, u1, u2, some (.int (nI a)), u4, some (.int (nI 4))] [] zS0 (g, h) = zv_ri (-1) zS0 (g, h) := by
    rw [zd_X6_compare_27_167, if_pos (zi_le 4 4 rfl (by decide) (by decide))]
  refine (st 0 (by decide)).trans ?_
  rw [st 1 (by decide), st 2 (by decide), st 3 (by decide), e4]
  unfold zf_pi zf_lo
  cases a.testBit 0 <;> cases a.testBit 1 <;> cases a.testBit 2 <;> cases a.testBit 3 <;> rfl
/-- the distances of the exits are laid into the keys -/
theorem zx_cmp111_27 {dp : Nat} (g : Nat → Nat → Int32) (h : Nat → Nat → Int64) {i a o : Nat} (u2 : Option Value) (pl : Nat → Nat) (hi : i < 5) (ha : a < 16) (ho : o < 16) (hpl : ∀ e, e < 4 → g 12 e = nI (pl e) ∧ pl e < 5) : ∃ g', (∀ c, c ≠ 35 → g' c = g c) ∧
    zv_m zt_X6_compare (zv_ev (dp + 1)) false 111 [some (.ref 27), some (.int (nI i)), u2, some (.int (nI a)), some (.int (nI o)), some (.int 0)] [] zS0 (g, h) = zv_ri (zf_pi (zf_lo (zf_mn (if o = 0 then a else o) fun e => g 33 (5 * i + pl e)))) zS0 (g', h) := by
  have key : ∀ j k g', k + j = 4 → (∀ c, c ≠ 35 → g' c = g c) → (∀ e, e < k → g' 35 e = g 33 (5 * i + pl e)) → ∃ g'', (∀ c, c ≠ 35 → g'' c = g c) ∧
      zv_m zt_X6_compare (zv_ev (dp + 1)) false 111 [some (.ref 27), some (.int (nI i)), u2, some (.int (nI a)), some (.int (nI o)), some (.int (nI k))] [] zS0 (g', h) = zv_ri (zf_pi (zf_lo (zf_mn (if o = 0 then a else o) fun e => g 33 (5 * i + pl e)))) zS0 (g'', h) := by
    intro j
    induction j with
    | zero =>
      intro k g' hk hc he
      refine ⟨g', hc, ?_⟩
      rw [zd_X6_compare_27_111, if_pos (zi_le 4 4 rfl (by omega) (by omega))]
      have hmn : ∀ z, zf_mn z (g' 35) = zf_mn z (fun e => g 33 (5 * i + pl e)) := by
        intro z
        refine zs_ext (zf_mn_lt _ _) (zf_mn_lt _ _) fun e he4 => ?_
        rw [Bool.eq_iff_iff, zf_mn_tb he4, zf_mn_tb he4]
        unfold zf_mk
        constructor
        · rintro ⟨q1, q2, q3⟩
          exact ⟨q1, q2, fun f hf hs => by show ¬ g 33 (5 * i + pl f) < g 33 (5 * i + pl e); rw [← he f (by omega), ← he e (by omega)]; exact q3 f hf hs⟩
        · rintro ⟨q1, q2, q3⟩
          exact ⟨q1, q2, fun f hf hs => by rw [he f (by omega), he e (by omega)]; exact q3 f hf hs⟩
      have ho0 : (nI o = 0) ↔ o = 0 := nI_eq (a := o) (b := 0) (by omega) (by decide)
      by_cases h0 : o = 0
      · rw [if_pos (ho0.mpr h0), if_pos h0, ev_smallest_35 (g', h) ha]
        show zv_m zt_X6_compare _ false 167 [_, _, _, some (.int (nI (zf_mn a (g' 35)))), _, _] [] zS0 (g', h) = _
        rw [zx_cmp167_27 _ _ _ _ _ _ _ (zf_mn_lt _ _), hmn]
      · rw [if_neg (fun z => h0 (ho0.mp z)), if_neg h0, ev_smallest_35 (g', h) ho]
        show zv_m zt_X6_compare _ false 167 [_, _, _, some (.int (nI (zf_mn o (g' 35)))), _, _] [] zS0 (g', h) = _
        rw [zx_cmp167_27 _ _ _ _ _ _ _ (zf_mn_lt _ _), hmn]
    | succ j ih =>
      intro k g' hk hc he
      have hk4 : k < 4 := by omega
      rw [zd_X6_compare_27_111, if_neg (zi_ge 4 4 rfl hk4 (by decide)), zi_in hk4 (by decide), nI_clamp (by omega), nI_1, hc 12 (by decide), (hpl k hk4).1, ev_distance_27 (g', h) hi (hpl k hk4).2]
      refine ih (k + 1) (zv_w g' 35 k (g' 33 (5 * i + pl k))) (by omega) (fun c hc' => by rw [zw_cell _ _ _ hc']; exact hc c hc') (fun e hek => ?_)
      by_cases hek' : e = k
      · subst hek'
        rw [zw_same, hc 33 (by decide)]
      · rw [zw_other _ _ _ hek']
        exact he e (by omega)
  exact key 4 0 g (by omega) (fun _ _ => rfl) (fun e he => absurd he (Nat.not_lt_zero e))
theorem ev_compare_27 {dp : Nat} (Dm : zv_D) {i s m mo : Nat} {pl ho : Nat → Nat} (hi : i < 5) (hs : s < 16) (hsm : ∀ e, e < 4 → s.testBit e = true → e < m) (hm : Dm.1 9 1 = nI m) (h4 : m ≤ 4) (hpl : ∀ e, e < 4 → Dm.1 12 e = nI (pl e) ∧ pl e < 5) (hne : ∀ e, e < m → Dm.1 13 e = 0 ∨ Dm.1 13 e = 1 ∨ Dm.1 13 e = 2) (hho : Dm.1 15 i = nI (ho i)) (hho2 : ho i < 16) (hmo : Dm.1 28 5 = nI mo) (hmo2 : mo ≤ 2) :
    ∃ g', (∀ c, c ≠ 35 → g' c = Dm.1 c) ∧ zv_ev (dp + 2) 62 [.ref 27, .int (nI i), .int (nI s)] zS0 Dm = zo_i (zf_pi (zf_pk s (Dm.1 14) (Dm.1 13) (Dm.1 30) (fun e => Dm.1 33 (5 * i + pl e)) (ho i) mo)) (g', Dm.2) := by
  have hand : ∀ z, z < 16 → nI z &&& nI (ho i) = nI (z &&& ho i) := fun z hz => zi_and (by omega) (by omega)
  have a16 := zf_mn_lt s (Dm.1 14)
  -- behind rule 2
  have tail : ∀ (z : Nat) (u2 : Option Value), z < 16 → zf_r2 mo (zf_mn s (Dm.1 14)) (Dm.1 13) (Dm.1 30) = z → ∃ g', (∀ c, c ≠ 35 → g' c = Dm.1 c) ∧ zv_m zt_X6_compare (zv_ev (dp + 1)) false 111 [some (.ref 27), some (.int (nI i)), u2, some (.int (nI z)), some (.int (nI z &&& Dm.1 15 i)), some (.int 0)] [] zS0 (Dm.1, Dm.2) = zv_ri (zf_pi (zf_pk s (Dm.1 14) (Dm.1 13) (Dm.1 30) (fun e => Dm.1 33 (5 * i + pl e)) (ho i) mo)) zS0 (g', Dm.2) := by
    intro z u2 hz hzr
    rw [hho, hand z hz]
    obtain ⟨g', q1, q2⟩ := zx_cmp111_27 (dp := dp) Dm.1 Dm.2 (a := z) (o := z &&& ho i) u2 pl hi hz (Nat.lt_of_le_of_lt Nat.and_le_left hz) hpl
    refine ⟨g', q1, q2.trans ?_⟩
    unfold zf_pk zf_ow
    rw [hzr]
  have start : ∃ g', (∀ c, c ≠ 35 → g' c = Dm.1 c) ∧ zv_m zt_X6_compare (zv_ev (dp + 1)) false 0 [some (.ref 27), some (.int (nI i)), some (.int (nI s)), none, none, none] [] zS0 (Dm.1, Dm.2) = zv_ri (zf_pi (zf_pk s (Dm.1 14) (Dm.1 13) (Dm.1 30) (fun e => Dm.1 33 (5 * i + pl e)) (ho i) mo)) zS0 (g', Dm.2) := by
    rw [zd_X6_compare_27, ev_smallest_14 (Dm.1, Dm.2) hs]
    simp only [Option.bind_some, hmo]
    have m0 : (nI mo = 0) ↔ mo = 0 := nI_eq (a := mo) (b := 0) (by omega) (by decide)
    have m1 : (nI mo = 1) ↔ mo = 1 := nI_eq (a := mo) (b := 1) (by omega) (by decide)
    by_cases h0 : mo = 0
    · rw [if_pos (m0.mpr h0)]
      have step : ∀ (v : Nat) (w : Nat), v < 3 → w < 16 → zv_m zt_X6_compare (zv_ev (dp + 1)) false 28 [some (.ref 27), some (.int (nI i)), some (.int (nI s)), some (.int (nI (zf_mn s (Dm.1 14)))), some (.int (nI w)), some (.int (nI v))] [] zS0 (Dm.1, Dm.2) = zv_m zt_X6_compare (zv_ev (dp + 1)) false 28 [some (.ref 27), some (.int (nI i)), some (.int (nI s)), some (.int (nI (zf_mn s (Dm.1 14)))), some (.int (nI (w ||| zf_mn (zf_mn s (Dm.1 14) &&& zf_ex m (Dm.1 13) (nI v) 4) (Dm.1 30)))), some (.int (nI (v + 1)))] [] zS0 (Dm.1, Dm.2) := by
        intro v w hv hw
        have hx := zf_ex_lt m (Dm.1 13) (nI v) 4
        have hy := zf_mn_lt (zf_mn s (Dm.1 14) &&& zf_ex m (Dm.1 13) (nI v) 4) (Dm.1 30)
        rw [zd_X6_compare_27_28, if_neg (show ¬ (2 : Int32) < nI v from nI_nlt (a := 2) (b := v) (by omega) (by decide)), ev_exitsTo (Dm.1, Dm.2) (nI v) hm h4, nI_1]
        simp only [Option.bind_some]
        rw [zi_and (by omega) (by omega), ev_smallest_30 (Dm.1, Dm.2) (Nat.lt_of_le_of_lt Nat.and_le_left a16)]
        simp only [Option.bind_some]
        rw [zi_or (by omega) (by omega)]
      have l0 := zf_mn_lt (zf_mn s (Dm.1 14) &&& zf_ex m (Dm.1 13) (nI 0) 4) (Dm.1 30)
      have l1 := zf_mn_lt (zf_mn s (Dm.1 14) &&& zf_ex m (Dm.1 13) (nI 1) 4) (Dm.1 30)
      have hun : ((0 ||| zf_mn (zf_mn s (Dm.1 14) &&& zf_ex m (Dm.1 13) (nI 0) 4) (Dm.1 30)) ||| zf_mn (zf_mn s (Dm.1 14) &&& zf_ex m (Dm.1 13) (nI 1) 4) (Dm.1 30)) ||| zf_mn (zf_mn s (Dm.1 14) &&& zf_ex m (Dm.1 13) (nI 2) 4) (Dm.1 30) = zf_nb (zf_mn s (Dm.1 14)) (Dm.1 13) (Dm.1 30) :=
        zf_nb_union (fun e he hb => ⟨hsm e he (zf_mn_sub he hb), hne e (hsm e he (zf_mn_sub he hb))⟩)
      have e0 := step 0 0 (by decide) (by decide)
      have e1 := step 1 _ (by decide) (Nat.or_lt_two_pow (n := 4) (by decide : 0 < 2 ^ 4) l0)
      have e2 := step 2 _ (by decide) (Nat.or_lt_two_pow (n := 4) (Nat.or_lt_two_pow (n := 4) (by decide : 0 < 2 ^ 4) l0) l1)
      rw [hun] at e2
      refine (tail (zf_nb (zf_mn s (Dm.1 14)) (Dm.1 13) (Dm.1 30)) (some (.int (nI s))) (zf_nb_lt _ _ _) (by unfold zf_r2; rw [if_pos h0])).imp fun g' hg => ⟨hg.1, ?_⟩
      refine (e0.trans (e1.trans e2)).trans ?_
      rw [zd_X6_compare_27_28, if_pos (show (2 : Int32) < nI 3 by decide), zi_in hi (by decide), nI_clamp (by omega)]
      exact hg.2
    · rw [if_neg (fun z => h0 (m0.mp z))]
      by_cases h1 : mo = 1
      · rw [if_pos (m1.mpr h1), ev_smallest_30 (Dm.1, Dm.2) a16]
        simp only [Option.bind_some]
        rw [zi_in hi (by decide), nI_clamp (by omega)]
        exact tail _ _ (zf_mn_lt _ _) (by unfold zf_r2; rw [if_neg h0, if_pos h1])
      · rw [if_neg (fun z => h1 (m1.mp z)), zi_in hi (by decide), nI_clamp (by omega)]
        exact tail _ _ a16 (by unfold zf_r2; rw [if_neg h0, if_neg h1])
  exact start.imp fun g' hg => ⟨hg.1, zs_X6_compare_27 hg.2⟩
