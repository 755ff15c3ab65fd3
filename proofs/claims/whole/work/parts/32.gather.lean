/-! ===== what is heard: the other side ===== -/
def zM_O (g : Nat → Nat → Int32) (off : Nat → Nat) : Prop := ∀ e, e < 4 → g 129 e = zm_v (off e) (zc_f (off e)) ∧ g 130 e = nI (if off e = 0 then 0 else zc_m (off e))
theorem zm_v0 {c v : Nat} (h : c = 0) : zm_v c v = -9 := if_pos h
theorem zm_v1 {c v : Nat} (h : c ≠ 0) : zm_v c v = nI v := if_neg h
theorem zm_v9 {c v : Nat} (hv : v < 2 ^ 31) : zm_v c v = -9 ↔ c = 0 := by
  constructor
  · intro h
    by_cases hc : c = 0
    · exact hc
    · rw [zm_v1 hc] at h; exact absurd h (zi_ne9 hv)
  · exact zm_v0
theorem zx_at {j k : Nat} : ((71 : Int32) + ((6 : Int32) * nI j)) + ((3 : Int32) * nI k) = nI (71 + 6 * j + 3 * k) := by
  rw [show (71 : Int32) = nI 71 from rfl, show (6 : Int32) = nI 6 from rfl, show (3 : Int32) = nI 3 from rfl, pk_mul, pk_mul, nI_add, nI_add]
theorem zx_30 {i j : Nat} : ((30 : Int32) + ((5 : Int32) * nI i)) + nI j = nI (30 + (5 * i + j)) := by
  rw [show (30 : Int32) = nI 30 from rfl, show (5 : Int32) = nI 5 from rfl, pk_mul, nI_add, nI_add, Nat.add_assoc]
theorem zx_05 {i j : Nat} : ((5 : Int32) + ((5 : Int32) * nI i)) + nI j = nI (5 + (5 * i + j)) := by
  rw [show (5 : Int32) = nI 5 from rfl, pk_mul, nI_add, nI_add, Nat.add_assoc]
theorem zi_le0 {c : Nat} (h : c < 2 ^ 31) : (nI c ≤ 0) ↔ c = 0 := by
  rw [show (0 : Int32) = nI 0 from rfl, nI_leI h (by decide)]
  omega
theorem zi_eqc (b : Nat) (x : Int32) (hx : nI b = x) {c : Nat} (h : c < 2 ^ 31) (hb : b < 2 ^ 31) : (nI c = x) ↔ c = b := by rw [← hx]; exact nI_eq h hb
theorem zx_add (a b : Nat) (c : Int32) (hc : nI b = c) : nI a + c = nI (a + b) := by rw [← hc, nI_add]
def zf_he (off : Nat → Nat) (e j mk : Nat) : Nat → Nat := fun e' => if e' = e ∧ (off e = 0 ∨ za_pc mk < za_pc (zc_m (off e))) then zc_k e j mk else off e'
theorem ev_hear {dp : Nat} {Dm : zv_D} {off : Nat → Nat} {e j mk : Nat} (he : e < 4) (hj : j < 5) (hm : mk < 32) (hO : zM_O Dm.1 off) (hq : off e ≠ 0 → za_pc mk = za_pc (zc_m (off e)) → zc_f (off e) ≤ j) :
    ∃ g', (∀ x, x ≠ 129 → x ≠ 130 → g' x = Dm.1 x) ∧ zM_O g' (zf_he off e j mk) ∧ zv_ev (dp + 2) 158 [.ref 116, .int (nI e), .int (nI j), .int (nI mk)] zS0 Dm = zo_v (g', Dm.2) := by
  have hst := zd_X9_hear (zv_ev (dp + 1)) Dm.1 Dm.2 (nI e) (nI j) (nI mk)
  rw [zi_in he (by decide), nI_clamp (by omega)] at hst
  simp only [cond_true] at hst
  have fl := zc_f_lt (off e)
  have ml := zc_m_lt (off e)
  have put : (off e = 0 ∨ za_pc mk < za_pc (zc_m (off e))) → zM_O (zv_w (zv_w Dm.1 129 e (nI j)) 130 e (nI mk)) (zf_he off e j mk) := by
    intro hb e' he'
    unfold zf_he
    by_cases hee : e' = e
    · subst hee
      have := zc_k_ge e' j mk
      rw [if_pos ⟨rfl, hb⟩, zw_cell _ _ _ (by decide), zw_same, zw_same, zm_v1 (by omega), if_neg (by omega), zc_fk (by omega) hm, zc_mk hm]
      exact ⟨rfl, rfl⟩
    · rw [if_neg (fun z => hee z.1), zw_cell _ _ _ (by decide), zw_other _ _ _ hee, zw_other _ _ _ hee, zw_cell _ _ _ (by decide)]
      exact hO e' he'
  have fr : ∀ (a b : Int32) (x : Nat), x ≠ 129 → x ≠ 130 → zv_w (zv_w Dm.1 129 e a) 130 e b x = Dm.1 x := fun a b x h1 h2 => (zw_cell _ _ _ h2).trans (zw_cell _ _ _ h1)
  by_cases b0 : off e = 0
  · rw [if_pos (by rw [(hO e he).1]; exact zm_v0 b0)] at hst
    exact ⟨_, fr _ _, put (Or.inl b0), zs_X9_hear hst⟩
  rw [if_neg (by rw [(hO e he).1, zm_v1 b0]; exact zi_ne9 (by omega)), ev_ones (dp := dp) (Dm.1, Dm.2) hm] at hst
  simp only [Option.bind_some] at hst
  rw [(hO e he).2, if_neg b0, ev_ones (dp := dp) (Dm.1, Dm.2) ml] at hst
  simp only [Option.bind_some] at hst
  have l1 := za_pc_lt mk
  have l2 := za_pc_lt (zc_m (off e))
  by_cases b1 : za_pc mk < za_pc (zc_m (off e))
  · rw [if_pos (nI_lt b1 (by omega))] at hst
    exact ⟨_, fr _ _, put (Or.inr b1), zs_X9_hear hst⟩
  rw [if_neg (nI_nlt (by omega) (by omega)), ev_ones (dp := dp) (Dm.1, Dm.2) hm] at hst
  simp only [Option.bind_some] at hst
  rw [(hO e he).2, if_neg b0, ev_ones (dp := dp) (Dm.1, Dm.2) ml] at hst
  simp only [Option.bind_some] at hst
  have keep : zM_O (zv_w (zv_w Dm.1 129 e (Dm.1 129 e)) 130 e (zv_w Dm.1 129 e (Dm.1 129 e) 130 e)) (zf_he off e j mk) := by
    intro e' he'
    unfold zf_he
    rw [if_neg (fun z => by rcases z.2 with q | q <;> omega)]
    by_cases hee : e' = e
    · subst hee
      rw [zw_cell _ _ _ (by decide), zw_same, zw_same, zw_cell _ _ _ (by decide)]
      exact hO e' he'
    · rw [zw_cell _ _ _ (by decide), zw_other _ _ _ hee, zw_other _ _ _ hee, zw_cell _ _ _ (by decide)]
      exact hO e' he'
  by_cases b2 : za_pc mk = za_pc (zc_m (off e))
  · rw [if_pos (by rw [b2]), if_pos (by rw [(hO e he).1, zm_v1 b0]; exact nI_le (hq b0 b2) (by omega))] at hst
    exact ⟨_, fr _ _, keep, zs_X9_hear hst⟩
  · rw [if_neg (fun z => b2 ((nI_eq (by omega) (by omega)).mp z))] at hst
    exact ⟨_, fr _ _, keep, zs_X9_hear hst⟩
theorem ev_gathered {dp : Nat} {Dm : zv_D} {off : Nat → Nat} (hO : ∀ e, e < 4 → (Dm.1 129 e = -9 ↔ off e = 0)) : zv_ev (dp + 1) 164 [.ref 116] zS0 Dm = zo_i (nI (za_set off)) Dm := by
  have st : ∀ k, k < 4 → zv_m zt_X9_gathered (zv_ev dp) false 4 [some (.ref 116), some (.int (nI (zf_set fun e => decide (e < k) && decide (off e ≠ 0)))), some (.int (nI k))] [] zS0 (Dm.1, Dm.2) = zv_m zt_X9_gathered (zv_ev dp) false 4 [some (.ref 116), some (.int (nI (zf_set fun e => decide (e < k + 1) && decide (off e ≠ 0)))), some (.int (nI (k + 1)))] [] zS0 (Dm.1, Dm.2) := by
    intro k hk
    have l1 := zf_set_lt (fun e => decide (e < k) && decide (off e ≠ 0))
    have l2 := z2k hk
    rw [zd_X9_gathered_4, if_neg (zi_ge 4 4 rfl hk (by decide)), zi_in hk (by decide), nI_clamp (by omega), nI_1, zi_sh (by omega), cond_true, zf_pre_s (p := fun e => decide (off e ≠ 0)) hk]
    by_cases hb : off k = 0
    · rw [if_pos ((hO k hk).mpr hb), if_neg (by simp [hb]), Int32.or_zero, Nat.or_zero]
    · rw [if_neg (fun z => hb ((hO k hk).mp z)), if_pos (by simp [hb]), zi_or (by omega) (by omega)]
  refine zs_X9_gathered ((zd_X9_gathered _ Dm.1 Dm.2).trans ?_)
  have s0 := st 0 (by decide)
  rw [zf_pre_0 (p := fun e => decide (off e ≠ 0))] at s0
  refine s0.trans ?_
  rw [st 1 (by decide), st 2 (by decide), st 3 (by decide), zd_X9_gathered_4, if_pos (zi_le 4 4 rfl (by decide) (by decide)), zf_pre_4 (p := fun e => decide (off e ≠ 0))]
  rfl
theorem za_te_self {T : zT} {i f : Nat} (hT : zT_ok T) (hi : i < 5) : za_te T i i f = false := by
  unfold za_te
  rw [hT.2.2.2.2.1 i i hi hi (Or.inr (Or.inr rfl))]
  rfl
theorem ev_isTold_119 {dp : Nat} {Dm : zv_D} {T : zT} {X : zX} {A : zA} {i j k : Nat} (hT : zT_ok T) (hR : zM_R (Dm.1 119) T X A) (hA : za_R T j (A j k)) (hi : i < 5) (hj : j < 5) (hk : k < 2) :
    zv_ev (dp + 2) 157 [.ref 119, .int (nI j), .int (nI i), .int (nI k)] zS0 Dm = zo_i (if (decide (A j k ≠ 0) && za_te T j i (zc_f (A j k))) = true then 1 else 0) Dm := by
  have hse : ∀ k, k < 25 → Dm.1 119 (30 + k) = nI (zT_se T k) := hR.2.2.2.2.2.2.1
  have hs3 : ∀ k, zT_se T k ≤ 3 := hT.2.2.2.1
  have hch := hR.2.2.2.2.2.2.2.2 j k hj hk
  have hst := zd_X9_isTold_p119 (zv_ev (dp + 1)) Dm.1 Dm.2 (nI j) (nI i) (nI k)
  have e1 := hs3 (5 * j + i)
  have e2 := hs3 (5 * j + zc_f (A j k))
  have hfl := zc_f_lt (A j k)
  rw [ev_at (dp := dp) (Dm.1, Dm.2), zx_at] at hst
  simp only [Option.bind_some] at hst
  rw [zx_add _ 1 1 rfl, zi_in (n := 101) (by omega) (by decide), ev_pair (dp := dp) (Dm.1, Dm.2), zx_30] at hst
  simp only [Option.bind_some, cond_true] at hst
  rw [zi_in (n := 101) (by omega) (by decide), nI_clamp (by omega), hse _ (by omega), nI_clamp (by omega), cond_true, ev_at (dp := dp) (Dm.1, Dm.2), zx_at] at hst
  simp only [Option.bind_some] at hst
  rw [zi_in (n := 101) (by omega) (by decide), nI_clamp (by omega), hch.1, hch.2.1, cond_true] at hst
  refine zs_X9_isTold_p119 (hst.trans ?_)
  unfold za_te
  by_cases b1 : zT_se T (5 * j + i) = 0
  · rw [if_pos ((zi_le0 (by omega)).mpr b1)]
    simp [b1]
  rw [if_neg (fun z => b1 ((zi_le0 (by omega)).mp z))]
  by_cases b2 : A j k = 0
  · rw [if_pos (zm_v0 b2)]
    simp [b2]
  have hf5 : zc_f (A j k) < 5 := by
    rcases hA with q | q
    · exact absurd q b2
    · have := hT.2.1; omega
  rw [if_neg (by rw [zm_v1 b2]; exact zi_ne9 (by have := zc_e_lt (A j k); omega)), zm_v1 b2]
  by_cases b3 : zc_f (A j k) = i
  · rw [if_pos (by rw [b3])]
    simp [b3]
  rw [if_neg (fun z => b3 ((nI_eq (by omega) (by omega)).mp z))]
  by_cases b4 : zc_f (A j k) = j
  · rw [if_pos (by rw [b4])]
    have b3' : j ≠ i := b4 ▸ b3
    simp [b1, b2, b4, b3']
  rw [if_neg (fun z => b4 ((nI_eq (by omega) (by omega)).mp z)), ev_pair (dp := dp) (Dm.1, Dm.2), zx_30]
  simp only [Option.bind_some]
  rw [zi_in (n := 101) (by omega) (by decide), nI_clamp (by omega), hse _ (by omega), cond_true]
  by_cases b5 : zT_se T (5 * j + zc_f (A j k)) = 2
  · rw [if_pos (by rw [b5]; rfl)]
    simp [b1, b2, b3, b5]
  rw [if_neg (fun z => b5 ((zi_eqc 2 2 rfl (by omega) (by decide)).mp z)), ev_pair (dp := dp) (Dm.1, Dm.2), zx_30]
  simp only [Option.bind_some]
  rw [zi_in (n := 101) (by omega) (by decide), nI_clamp (by omega), hse _ (by omega), cond_true]
  by_cases b6 : zT_se T (5 * j + i) = 2
  · rw [if_pos (by rw [b6]; rfl)]
    simp [b2, b3, b6]
  · rw [if_neg (fun z => b6 ((zi_eqc 2 2 rfl (by omega) (by decide)).mp z))]
    simp [b4, b5, b6]
theorem ev_isTold_120 {dp : Nat} {Dm : zv_D} {T : zT} {X : zX} {A : zA} {i j k : Nat} (hT : zT_ok T) (hR : zM_R (Dm.1 120) T X A) (hA : za_R T j (A j k)) (hi : i < 5) (hj : j < 5) (hk : k < 2) :
    zv_ev (dp + 2) 157 [.ref 120, .int (nI j), .int (nI i), .int (nI k)] zS0 Dm = zo_i (if (decide (A j k ≠ 0) && za_te T j i (zc_f (A j k))) = true then 1 else 0) Dm := by
  have hse : ∀ k, k < 25 → Dm.1 120 (30 + k) = nI (zT_se T k) := hR.2.2.2.2.2.2.1
  have hs3 : ∀ k, zT_se T k ≤ 3 := hT.2.2.2.1
  have hch := hR.2.2.2.2.2.2.2.2 j k hj hk
  have hst := zd_X9_isTold_p120 (zv_ev (dp + 1)) Dm.1 Dm.2 (nI j) (nI i) (nI k)
  have e1 := hs3 (5 * j + i)
  have e2 := hs3 (5 * j + zc_f (A j k))
  have hfl := zc_f_lt (A j k)
  rw [ev_at (dp := dp) (Dm.1, Dm.2), zx_at] at hst
  simp only [Option.bind_some] at hst
  rw [zx_add _ 1 1 rfl, zi_in (n := 101) (by omega) (by decide), ev_pair (dp := dp) (Dm.1, Dm.2), zx_30] at hst
  simp only [Option.bind_some, cond_true] at hst
  rw [zi_in (n := 101) (by omega) (by decide), nI_clamp (by omega), hse _ (by omega), nI_clamp (by omega), cond_true, ev_at (dp := dp) (Dm.1, Dm.2), zx_at] at hst
  simp only [Option.bind_some] at hst
  rw [zi_in (n := 101) (by omega) (by decide), nI_clamp (by omega), hch.1, hch.2.1, cond_true] at hst
  refine zs_X9_isTold_p120 (hst.trans ?_)
  unfold za_te
  by_cases b1 : zT_se T (5 * j + i) = 0
  · rw [if_pos ((zi_le0 (by omega)).mpr b1)]
    simp [b1]
  rw [if_neg (fun z => b1 ((zi_le0 (by omega)).mp z))]
  by_cases b2 : A j k = 0
  · rw [if_pos (zm_v0 b2)]
    simp [b2]
  have hf5 : zc_f (A j k) < 5 := by
    rcases hA with q | q
    · exact absurd q b2
    · have := hT.2.1; omega
  rw [if_neg (by rw [zm_v1 b2]; exact zi_ne9 (by have := zc_e_lt (A j k); omega)), zm_v1 b2]
  by_cases b3 : zc_f (A j k) = i
  · rw [if_pos (by rw [b3])]
    simp [b3]
  rw [if_neg (fun z => b3 ((nI_eq (by omega) (by omega)).mp z))]
  by_cases b4 : zc_f (A j k) = j
  · rw [if_pos (by rw [b4])]
    have b3' : j ≠ i := b4 ▸ b3
    simp [b1, b2, b4, b3']
  rw [if_neg (fun z => b4 ((nI_eq (by omega) (by omega)).mp z)), ev_pair (dp := dp) (Dm.1, Dm.2), zx_30]
  simp only [Option.bind_some]
  rw [zi_in (n := 101) (by omega) (by decide), nI_clamp (by omega), hse _ (by omega), cond_true]
  by_cases b5 : zT_se T (5 * j + zc_f (A j k)) = 2
  · rw [if_pos (by rw [b5]; rfl)]
    simp [b1, b2, b3, b5]
  rw [if_neg (fun z => b5 ((zi_eqc 2 2 rfl (by omega) (by decide)).mp z)), ev_pair (dp := dp) (Dm.1, Dm.2), zx_30]
  simp only [Option.bind_some]
  rw [zi_in (n := 101) (by omega) (by decide), nI_clamp (by omega), hse _ (by omega), cond_true]
  by_cases b6 : zT_se T (5 * j + i) = 2
  · rw [if_pos (by rw [b6]; rfl)]
    simp [b2, b3, b6]
  · rw [if_neg (fun z => b6 ((zi_eqc 2 2 rfl (by omega) (by decide)).mp z))]
    simp [b4, b5, b6]
theorem ev_isTold_121 {dp : Nat} {Dm : zv_D} {T : zT} {X : zX} {A : zA} {i j k : Nat} (hT : zT_ok T) (hR : zM_R (Dm.1 121) T X A) (hA : za_R T j (A j k)) (hi : i < 5) (hj : j < 5) (hk : k < 2) :
    zv_ev (dp + 2) 157 [.ref 121, .int (nI j), .int (nI i), .int (nI k)] zS0 Dm = zo_i (if (decide (A j k ≠ 0) && za_te T j i (zc_f (A j k))) = true then 1 else 0) Dm := by
  have hse : ∀ k, k < 25 → Dm.1 121 (30 + k) = nI (zT_se T k) := hR.2.2.2.2.2.2.1
  have hs3 : ∀ k, zT_se T k ≤ 3 := hT.2.2.2.1
  have hch := hR.2.2.2.2.2.2.2.2 j k hj hk
  have hst := zd_X9_isTold_p121 (zv_ev (dp + 1)) Dm.1 Dm.2 (nI j) (nI i) (nI k)
  have e1 := hs3 (5 * j + i)
  have e2 := hs3 (5 * j + zc_f (A j k))
  have hfl := zc_f_lt (A j k)
  rw [ev_at (dp := dp) (Dm.1, Dm.2), zx_at] at hst
  simp only [Option.bind_some] at hst
  rw [zx_add _ 1 1 rfl, zi_in (n := 101) (by omega) (by decide), ev_pair (dp := dp) (Dm.1, Dm.2), zx_30] at hst
  simp only [Option.bind_some, cond_true] at hst
  rw [zi_in (n := 101) (by omega) (by decide), nI_clamp (by omega), hse _ (by omega), nI_clamp (by omega), cond_true, ev_at (dp := dp) (Dm.1, Dm.2), zx_at] at hst
  simp only [Option.bind_some] at hst
  rw [zi_in (n := 101) (by omega) (by decide), nI_clamp (by omega), hch.1, hch.2.1, cond_true] at hst
  refine zs_X9_isTold_p121 (hst.trans ?_)
  unfold za_te
  by_cases b1 : zT_se T (5 * j + i) = 0
  · rw [if_pos ((zi_le0 (by omega)).mpr b1)]
    simp [b1]
  rw [if_neg (fun z => b1 ((zi_le0 (by omega)).mp z))]
  by_cases b2 : A j k = 0
  · rw [if_pos (zm_v0 b2)]
    simp [b2]
  have hf5 : zc_f (A j k) < 5 := by
    rcases hA with q | q
    · exact absurd q b2
    · have := hT.2.1; omega
  rw [if_neg (by rw [zm_v1 b2]; exact zi_ne9 (by have := zc_e_lt (A j k); omega)), zm_v1 b2]
  by_cases b3 : zc_f (A j k) = i
  · rw [if_pos (by rw [b3])]
    simp [b3]
  rw [if_neg (fun z => b3 ((nI_eq (by omega) (by omega)).mp z))]
  by_cases b4 : zc_f (A j k) = j
  · rw [if_pos (by rw [b4])]
    have b3' : j ≠ i := b4 ▸ b3
    simp [b1, b2, b4, b3']
  rw [if_neg (fun z => b4 ((nI_eq (by omega) (by omega)).mp z)), ev_pair (dp := dp) (Dm.1, Dm.2), zx_30]
  simp only [Option.bind_some]
  rw [zi_in (n := 101) (by omega) (by decide), nI_clamp (by omega), hse _ (by omega), cond_true]
  by_cases b5 : zT_se T (5 * j + zc_f (A j k)) = 2
  · rw [if_pos (by rw [b5]; rfl)]
    simp [b1, b2, b3, b5]
  rw [if_neg (fun z => b5 ((zi_eqc 2 2 rfl (by omega) (by decide)).mp z)), ev_pair (dp := dp) (Dm.1, Dm.2), zx_30]
  simp only [Option.bind_some]
  rw [zi_in (n := 101) (by omega) (by decide), nI_clamp (by omega), hse _ (by omega), cond_true]
  by_cases b6 : zT_se T (5 * j + i) = 2
  · rw [if_pos (by rw [b6]; rfl)]
    simp [b2, b3, b6]
  · rw [if_neg (fun z => b6 ((zi_eqc 2 2 rfl (by omega) (by decide)).mp z))]
    simp [b4, b5, b6]
