/-! ===== loops ===== -/
theorem zl_up {σ β : Type} (F : Nat → σ → β) (N : Nat) (I : Nat → σ → Prop) (h : ∀ k s, k < N → I k s → ∃ s', I (k + 1) s' ∧ F k s = F (k + 1) s') (s : σ) (h0 : I 0 s) : ∃ s', I N s' ∧ F 0 s = F N s' := by
  induction N with
  | zero => exact ⟨s, h0, rfl⟩
  | succ N ih =>
    obtain ⟨s1, q1, q2⟩ := ih (fun k s hk => h k s (by omega))
    obtain ⟨s2, q3, q4⟩ := h N s1 (by omega) q1
    exact ⟨s2, q3, q2.trans q4⟩
/-- with ways out -/
theorem zl_ex {σ β : Type} (F : Nat → σ → β) (N : Nat) (I : Nat → σ → Prop) (X : β → Prop) (h : ∀ k s, k < N → I k s → X (F k s) ∨ ∃ s', I (k + 1) s' ∧ F k s = F (k + 1) s') (s : σ) (h0 : I 0 s) : X (F 0 s) ∨ ∃ s', I N s' ∧ F 0 s = F N s' := by
  induction N with
  | zero => exact Or.inr ⟨s, h0, rfl⟩
  | succ N ih =>
    rcases ih (fun k s hk => h k s (by omega)) with q | ⟨s1, q1, q2⟩
    · exact Or.inl q
    · rcases h N s1 (by omega) q1 with q | ⟨s2, q3, q4⟩
      · exact Or.inl (q2 ▸ q)
      · exact Or.inr ⟨s2, q3, q2.trans q4⟩
/-! ===== numbers ===== -/
theorem zi_lit (k : Nat) (hk : k < 32) : (((nI k &&& 31) : Int32).toBitVec.smod 32).toNat = k := by
  have key : ∀ k, k < 32 → (((nI k &&& 31) : Int32).toBitVec.smod 32).toNat = k := by decide +kernel
  exact key k hk
theorem zi_shr {a k : Nat} (ha : a < 2 ^ 31) (hk : k < 32) : nI a >>> (nI k &&& 31) = nI (a / 2 ^ k) := pk_shrN ha _ k (zi_lit k hk)
theorem zi_shl {a k : Nat} (hk : k < 32) (ha : a * 2 ^ k < 2 ^ 32) : nI a <<< (nI k &&& 31) = nI (a * 2 ^ k) := pk_shlN _ k (zi_lit k hk) ha
theorem zi_and1 {a : Nat} (ha : a < 2 ^ 31) : nI a &&& 1 = nI (a % 2) := pk_andN (by omega) 1 (by decide)
theorem zi_bit {a k : Nat} (ha : a < 2 ^ 31) (hk : k < 32) : ((nI a >>> (nI k &&& 31)) &&& 1) = nI (a / 2 ^ k % 2) := by
  have : a / 2 ^ k ≤ a := Nat.div_le_self _ _
  rw [zi_shr ha hk, zi_and1 (by omega)]
theorem zi_bt {a k : Nat} (ha : a < 2 ^ 31) (hk : k < 32) : ((nI a >>> (nI k &&& 31)) &&& 1) = if a.testBit k = true then 1 else 0 := by
  rw [zi_bit ha hk, Nat.testBit_eq_decide_div_mod_eq]
  have : a / 2 ^ k % 2 < 2 := Nat.mod_lt _ (by decide)
  by_cases h : a / 2 ^ k % 2 = 1
  · rw [h]; rfl
  · have h0 : a / 2 ^ k % 2 = 0 := by omega
    rw [h0]; rfl
theorem zi_b1t {a k : Nat} (ha : a < 2 ^ 31) (hk : k < 32) : (((nI a >>> (nI k &&& 31)) &&& 1) = 1) = (a.testBit k = true) := by
  rw [zi_bt ha hk]
  cases a.testBit k <;> simp
theorem zi_b0t {a k : Nat} (ha : a < 2 ^ 31) (hk : k < 32) : (((nI a >>> (nI k &&& 31)) &&& 1) = 0) = (a.testBit k = false) := by
  rw [zi_bt ha hk]
  cases a.testBit k <;> simp
def za_pc (s : Nat) : Nat := s % 2 + s / 2 % 2 + s / 4 % 2 + s / 8 % 2 + s / 16 % 2
theorem za_pc_lt (s : Nat) : za_pc s < 6 := by unfold za_pc; omega
theorem za_pc_pos {s j : Nat} (hj : j < 5) : 0 < za_pc (s ||| 2 ^ j) := by
  have h := Nat.testBit_or s (2 ^ j) j
  rw [Nat.testBit_two_pow_self, Bool.or_true, Nat.testBit_eq_decide_div_mod_eq] at h
  replace h := of_decide_eq_true h
  unfold za_pc
  have : j = 0 ∨ j = 1 ∨ j = 2 ∨ j = 3 ∨ j = 4 := by omega
  rcases this with rfl | rfl | rfl | rfl | rfl <;> simp only [Nat.reducePow, Nat.div_one] at h ⊢ <;> omega
theorem ev_bitCount {dp : Nat} (Dm : zv_D) {s : Nat} (hs : s < 32) : zv_ev (dp + 1) 0 [.int (nI s)] zS0 Dm = zo_i (nI (za_pc s)) Dm := by
  refine zs_J_bitCount ((zd_J_bitCount _ Dm.1 Dm.2 _).trans ?_)
  refine congrArg (fun v => zv_ri v zS0 (Dm.1, Dm.2)) ?_
  revert s
  decide +kernel
theorem ev_ones {dp : Nat} (Dm : zv_D) {s : Nat} (hs : s < 32) : zv_ev (dp + 1) 131 [.int (nI s)] zS0 Dm = zo_i (nI (za_pc s)) Dm := by
  refine zs_X9_ones ((zd_X9_ones _ Dm.1 Dm.2 _).trans ?_)
  have st : ∀ k a, k < 5 → zv_m zt_X9_ones (zv_ev dp) false 4 [some (.int (nI s)), some (.int (nI a)), some (.int (nI k))] [] zS0 (Dm.1, Dm.2) = zv_m zt_X9_ones (zv_ev dp) false 4 [some (.int (nI s)), some (.int (nI (a + s / 2 ^ k % 2))), some (.int (nI (k + 1)))] [] zS0 (Dm.1, Dm.2) := by
    intro k a hk
    rw [zd_X9_ones_4, if_neg (zi_ge 5 5 rfl hk (by decide)), zi_bit (by omega) (by omega), nI_add, nI_1]
  have e5 : ∀ a, zv_m zt_X9_ones (zv_ev dp) false 4 [some (.int (nI s)), some (.int (nI a)), some (.int (nI 5))] [] zS0 (Dm.1, Dm.2) = zv_ri (nI a) zS0 (Dm.1, Dm.2) := by
    intro a
    rw [zd_X9_ones_4, if_pos (zi_le 5 5 rfl (by decide) (by decide))]
  refine (st 0 0 (by decide)).trans ?_
  rw [st 1 _ (by decide), st 2 _ (by decide), st 3 _ (by decide), st 4 _ (by decide), e5]
  unfold za_pc
  simp only [Nat.reducePow, Nat.div_one, Nat.zero_add]
/-! ===== routes as codes ===== -/
def zc_e (c : Nat) : Nat := c / 256 % 4
def zc_f (c : Nat) : Nat := c / 32 % 8
def zc_m (c : Nat) : Nat := c % 32
def zc_k (e f mk : Nat) : Nat := 1024 + 256 * e + 32 * f + mk
theorem zc_e_lt (c : Nat) : zc_e c < 4 := Nat.mod_lt _ (by decide)
theorem zc_f_lt (c : Nat) : zc_f c < 8 := Nat.mod_lt _ (by decide)
theorem zc_m_lt (c : Nat) : zc_m c < 32 := Nat.mod_lt _ (by decide)
theorem zc_ek {e f mk : Nat} (he : e < 4) (hf : f < 8) (hm : mk < 32) : zc_e (zc_k e f mk) = e := by unfold zc_e zc_k; omega
theorem zc_fk {e f mk : Nat} (hf : f < 8) (hm : mk < 32) : zc_f (zc_k e f mk) = f := by unfold zc_f zc_k; omega
theorem zc_mk {e f mk : Nat} (hm : mk < 32) : zc_m (zc_k e f mk) = mk := by unfold zc_m zc_k; omega
theorem zc_k_lt {e f mk : Nat} (he : e < 4) (hf : f < 8) (hm : mk < 32) : zc_k e f mk < 2048 := by unfold zc_k; omega
theorem zc_k_ge (e f mk : Nat) : 1024 ≤ zc_k e f mk := by unfold zc_k; omega
theorem zc_inj {c d : Nat} (hc : 1024 ≤ c) (hc2 : c < 2048) (hd : 1024 ≤ d) (hd2 : d < 2048) (he : zc_e c = zc_e d) (hf : zc_f c = zc_f d) (hm : zc_m c = zc_m d) : c = d := by
  unfold zc_e at he; unfold zc_f at hf; unfold zc_m at hm; omega
theorem zi_e {c : Nat} (hc : c < 2048) : ((nI c >>> (8 &&& 31)) &&& 3) = nI (zc_e c) := by
  have : c / 2 ^ 8 ≤ c := Nat.div_le_self _ _
  rw [show (8 : Int32) = nI 8 from rfl, zi_shr (by omega) (by decide)]
  exact pk_andN (by omega) 2 (by decide)
theorem zi_f {c : Nat} (hc : c < 2048) : ((nI c >>> (5 &&& 31)) &&& 7) = nI (zc_f c) := by
  have : c / 2 ^ 5 ≤ c := Nat.div_le_self _ _
  rw [show (5 : Int32) = nI 5 from rfl, zi_shr (by omega) (by decide)]
  exact pk_andN (by omega) 3 (by decide)
theorem zi_m {c : Nat} (hc : c < 2 ^ 31) : (nI c &&& 31) = nI (zc_m c) := pk_andN (by omega) 5 (by decide)
theorem zi_k {e f mk : Nat} (he : e < 4) (hf : f < 8) (hm : mk < 32) : (((((1024 : Int32) ||| (nI e <<< (8 &&& 31))) ||| (nI f <<< (5 &&& 31))) ||| nI mk)) = nI (zc_k e f mk) := by
  rw [show (8 : Int32) = nI 8 from rfl, show (5 : Int32) = nI 5 from rfl, zi_shl (by decide) (by omega), zi_shl (by decide) (by omega), show (1024 : Int32) = nI 1024 from rfl, zi_or (by decide) (by omega), zi_or (Nat.or_lt_two_pow (n := 11) (by decide) (by omega)) (by omega), zi_or (Nat.or_lt_two_pow (n := 11) (Nat.or_lt_two_pow (n := 11) (by decide) (by omega)) (by omega)) (by omega)]
  refine congrArg nI ?_
  unfold zc_k
  have key : ∀ e, e < 4 → ∀ f, f < 8 → ∀ mk, mk < 32 → ((1024 ||| e * 2 ^ 8) ||| f * 2 ^ 5) ||| mk = 1024 + 256 * e + 32 * f + mk := by decide +kernel
  exact key e he f hf mk hm
theorem zi_lo {c : Nat} (hc : c < 2 ^ 31) : (nI c &&& 2047) = nI (c % 2048) := pk_andN (by omega) 11 (by decide)
theorem zi_hi {c : Nat} (hc : c < 2 ^ 31) : (nI c >>> (11 &&& 31)) = nI (c / 2048) := by
  rw [show (11 : Int32) = nI 11 from rfl, zi_shr hc (by decide)]
theorem zi_up {c : Nat} (hc : c < 2048) : (nI c <<< (11 &&& 31)) = nI (2048 * c) := by
  rw [show (11 : Int32) = nI 11 from rfl, zi_shl (by decide) (by omega), Nat.mul_comm]
theorem zi_sum {c d : Nat} (hc : c < 2048) (hd : d < 2048) : (nI c ||| nI (2048 * d)) = nI (c + 2048 * d) := by
  have h1 : (c ||| 2048 * d) = c + 2048 * d := by
    rw [Nat.or_comm, show 2048 = 2 ^ 11 from rfl, ← Nat.two_pow_add_eq_or_of_lt (i := 11) hc, Nat.add_comm]
  apply Int32.toBitVec_inj.mp
  apply BitVec.eq_of_toNat_eq
  rw [Int32.toBitVec_or, BitVec.toNat_or, pk_tn (by omega), pk_tn (by omega), pk_tn (by omega), h1]
def za_rm (s p : Nat) : Nat := s &&& (15 - 2 ^ p)
theorem za_rm_lt {s p : Nat} (hs : s < 16) : za_rm s p < 16 := Nat.lt_of_le_of_lt Nat.and_le_left hs
theorem zi_rm {s p : Nat} (hs : s < 16) (hp : p < 4) : nI s &&& (((1 : Int32) <<< (nI p &&& 31)) ^^^ (-1)) = nI (za_rm s p) := by
  have key : ∀ s, s < 16 → ∀ p, p < 4 → nI s &&& (((1 : Int32) <<< (nI p &&& 31)) ^^^ (-1)) = nI (za_rm s p) := by decide +kernel
  exact key s hs p hp
theorem za_rm_tb {s p e : Nat} (hs : s < 16) (hp : p < 4) (he : e < 4) : (za_rm s p).testBit e = (s.testBit e && decide (e ≠ p)) := by
  have key : ∀ s, s < 16 → ∀ p, p < 4 → ∀ e, e < 4 → (za_rm s p).testBit e = (s.testBit e && decide (e ≠ p)) := by decide +kernel
  exact key s hs p hp e he
