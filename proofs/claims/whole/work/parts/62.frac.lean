/-! ===== fractions ===== -/
def zg_f : Nat → Nat → Nat → Nat
  | 0, p, _ => p
  | f + 1, p, q => if q = 0 then p else zg_f f q (p % q)
theorem zg_f_gcd : ∀ k f p q, q < 2 ^ k → 2 * k < f → zg_f f p q = Nat.gcd p q := by
  intro k
  induction k with
  | zero =>
    intro f p q hq hf
    have : q = 0 := by omega
    subst this
    obtain ⟨f, rfl⟩ : ∃ f', f = f' + 1 := ⟨f - 1, by omega⟩
    simp [zg_f]
  | succ k ih =>
    intro f p q hq hf
    obtain ⟨f, rfl⟩ : ∃ f', f = f' + 2 := ⟨f - 2, by omega⟩
    have g1 : ∀ p q, Nat.gcd p q = Nat.gcd q (p % q) := fun p q => by rw [Nat.gcd_comm p q, Nat.gcd_rec q p, Nat.gcd_comm]
    unfold zg_f
    by_cases h0 : q = 0
    · rw [if_pos h0, h0, Nat.gcd_zero_right]
    · rw [if_neg h0, g1 p q]
      unfold zg_f
      by_cases h1 : p % q = 0
      · rw [if_pos h1, h1, Nat.gcd_zero_right]
      · rw [if_neg h1, g1 q (p % q)]
        refine ih f _ _ ?_ (by omega)
        have hl : p % q < q := Nat.mod_lt _ (by omega)
        have h2 : q % (p % q) < p % q := Nat.mod_lt _ (by omega)
        have h3 : p % q * (q / (p % q)) + q % (p % q) = q := Nat.div_add_mod _ _
        have h4 : 1 ≤ q / (p % q) := (Nat.one_le_div_iff (by omega)).mpr (by omega)
        have h5 : p % q * 1 ≤ p % q * (q / (p % q)) := Nat.mul_le_mul_left _ h4
        rw [Nat.pow_succ] at hq
        omega
section FR
variable {dp : Nat} (Dm : zv_D)
theorem ev_common {p q : Nat} (hp : p < 2 ^ 31) (hq : q < 2 ^ 31) : zv_ev (dp + 1) 119 [.int (nI p), .int (nI q)] zS0 Dm = zo_i (nI (Nat.gcd p q)) Dm := by
  have key : ∀ (f : Nat) (p q t : Nat) (u0 u1 u5 : Option Value), t + f = 100 → p < 2 ^ 31 → q < 2 ^ 31 → zv_m zt_X8_commonDivisor (zv_ev dp) false 7 [u0, u1, some (.int (nI p)), some (.int (nI q)), some (.int (nI t)), u5] [] zS0 (Dm.1, Dm.2) = zv_ri (nI (zg_f f p q)) zS0 (Dm.1, Dm.2) := by
    intro f
    induction f with
    | zero =>
      intro p q t u0 u1 u5 ht hp hq
      rw [zd_X8_commonDivisor_7, if_pos (zi_le 100 100 rfl (by omega) (by omega))]
      rfl
    | succ f ih =>
      intro p q t u0 u1 u5 ht hp hq
      rw [zd_X8_commonDivisor_7, if_neg (zi_ge 100 100 rfl (by omega) (by decide))]
      unfold zg_f
      by_cases h0 : q = 0
      · rw [if_pos ((zi_0 hq).mpr h0), if_pos h0]
      · have hl : p % q < q := Nat.mod_lt _ (by omega)
        rw [if_neg (fun z => h0 ((zi_0 hq).mp z)), if_neg (fun z => h0 ((zi_0 hq).mp z)), if_neg h0, pk_rem hp (by omega) hq, nI_1]
        exact ih q (p % q) (t + 1) _ _ _ (by omega) hq (by omega)
  refine zs_X8_commonDivisor ((zd_X8_commonDivisor _ Dm.1 Dm.2 _ _).trans ((key 100 p q 0 _ _ none rfl hp hq).trans ?_))
  rw [zg_f_gcd 31 100 p q hq (by decide)]
theorem ev_divisor {a : Int32} {p q : Nat} (ha : (if 0 ≤ a then a else -a) = nI p) (hp : p < 2 ^ 31) (hq : q < 2 ^ 31) : zv_ev (dp + 1) 204 [.int a, .int (nI q)] zS0 Dm = zo_i (nI (Nat.gcd p q)) Dm := by
  have key : ∀ (q p : Nat) (u0 u1 u4 : Option Value), p < 2 ^ 31 → q < 2 ^ 31 → zv_m zt_X9_divisor (zv_ev dp) false 13 [u0, u1, some (.int (nI p)), some (.int (nI q)), u4] [] zS0 (Dm.1, Dm.2) = zv_ri (nI (Nat.gcd p q)) zS0 (Dm.1, Dm.2) := by
    intro q
    induction q using Nat.strongRecOn with
    | ind q ih =>
      intro p u0 u1 u4 hp hq
      rw [zd_X9_divisor_13]
      by_cases h0 : q = 0
      · rw [if_pos ((zi_0 hq).mpr h0), h0, Nat.gcd_zero_right]
      · have hl : p % q < q := Nat.mod_lt _ (by omega)
        rw [if_neg (fun z => h0 ((zi_0 hq).mp z)), if_neg (fun z => h0 ((zi_0 hq).mp z)), pk_rem hp (by omega) hq, ih (p % q) hl q _ _ _ hq (by omega), Nat.gcd_comm p q, Nat.gcd_rec q p, Nat.gcd_comm]
  refine zs_X9_divisor ((zd_X9_divisor _ Dm.1 Dm.2 _ _).trans ?_)
  by_cases h0 : 0 ≤ a
  · rw [if_pos h0] at ha ⊢
    subst ha
    exact key q p _ _ none hp hq
  · rw [if_neg h0] at ha ⊢
    rw [ha]
    exact key q p _ _ none hp hq
/-- the two fractions are alike -/
theorem ev_part {a b : Int32} {p q : Nat} (ha : (if 0 ≤ a then a else -a) = nI p) (hp : p < 2 ^ 31) (h0 : 0 < q) (hq : q < 2 ^ 31) : ∃ v, (∀ Dm, zv_ev (dp + 2) 120 [.int a, .int (nI q), .int b] zS0 Dm = zo_i v Dm) ∧ ∀ Dm, zv_ev (dp + 2) 205 [.int a, .int (nI q), .int b] zS0 Dm = zo_i v Dm := by
  have hg : 0 < Nat.gcd p q := Nat.gcd_pos_of_pos_right _ h0
  have hg2 : Nat.gcd p q ≤ q := Nat.gcd_le_right _ h0
  refine ⟨if b = 0 then nI q / nI (Nat.gcd p q) else a / nI (Nat.gcd p q), fun Dm => ?_, fun Dm => ?_⟩
  · have hst := zd_X8_part (zv_ev (dp + 1)) Dm.1 Dm.2 a (nI q) b
    rw [Int32.zero_sub, ha, ev_common (dp := dp) (Dm.1, Dm.2) hp hq] at hst
    simp only [Option.bind_some] at hst
    rw [if_pos (show (0 : Int32) < nI (Nat.gcd p q) from nI_lt (a := 0) hg (by omega)), if_neg (nI_ne0 hg (by omega)), if_neg (nI_ne0 hg (by omega))] at hst
    refine zs_X8_part (hst.trans ?_)
    by_cases hb : b = 0
    · rw [if_pos hb, if_pos hb]
    · rw [if_neg hb, if_neg hb]
  · have hst := zd_X9_fraction (zv_ev (dp + 1)) Dm.1 Dm.2 a (nI q) b
    rw [ev_divisor (dp := dp) (Dm.1, Dm.2) ha hp hq] at hst
    simp only [Option.bind_some] at hst
    rw [if_neg (nI_ne0 hg (by omega)), if_neg (nI_ne0 hg (by omega))] at hst
    refine zs_X9_fraction (hst.trans ?_)
    by_cases hb : b = 0
    · rw [if_pos hb, if_pos hb]
    · rw [if_neg hb, if_neg hb]
theorem ev_power {a n : Nat} (hn : n < 2 ^ 31) : zv_ev (dp + 1) 132 [.int (nI a), .int (nI n)] zS0 Dm = zo_i (nI (a ^ n)) Dm := by
  obtain ⟨-, -, r1⟩ := zl_up (σ := Unit) (fun k _ => zv_m zt_X9_power (zv_ev dp) false 4 [some (.int (nI a)), some (.int (nI n)), some (.int (nI (a ^ k))), some (.int (nI k))] [] zS0 (Dm.1, Dm.2)) n (fun _ _ => True) (by
    intro k _ hk _
    refine ⟨(), trivial, ?_⟩
    rw [zd_X9_power_4, if_neg (nI_ge hk hn), pk_mul, nI_1, Nat.pow_succ]) () trivial
  refine zs_X9_power ((zd_X9_power _ Dm.1 Dm.2 _ _).trans (r1.trans ?_))
  rw [zd_X9_power_4, if_pos (nI_le (Nat.le_refl _) hn)]
def za_fa : Nat → Nat
  | 0 => 1
  | 1 => 1
  | 2 => 2
  | 3 => 6
  | _ => 24
theorem zv_fa_eq : ∀ n, n < 5 → zv_fa n = nI (za_fa n) := by decide +kernel
theorem ev_factC {n : Nat} (hn : n < 5) : zv_ev (dp + 1) 118 [.int (nI n)] zS0 Dm = zo_i (nI (za_fa n)) Dm := by
  refine zs_X8_factorial ((zd_X8_factorial _ Dm.1 Dm.2 _).trans ?_)
  rw [if_neg (nI_pos (by omega)), if_pos (show nI n < Int32.ofNat 5 from nI_lt (b := 5) hn (by decide)), zi_in hn (by decide), nI_clamp (by omega), zv_fa_eq n hn]
  rfl
theorem ev_factM {n : Nat} (hn : n < 5) : zv_ev (dp + 1) 206 [.int (nI n)] zS0 Dm = zo_i (nI (za_fa n)) Dm := by
  refine zs_X9_factorial ((zd_X9_factorial _ Dm.1 Dm.2 _).trans ?_)
  have : n = 0 ∨ n = 1 ∨ n = 2 ∨ n = 3 ∨ n = 4 := by omega
  rcases this with rfl | rfl | rfl | rfl | rfl
  · rw [zd_X9_factorial_4, if_pos (by decide)]; rfl
  · rw [zd_X9_factorial_4, if_pos (by decide)]; rfl
  · rw [zd_X9_factorial_4, if_neg (by decide), zd_X9_factorial_4, if_pos (by decide)]; rfl
  · rw [zd_X9_factorial_4, if_neg (by decide), zd_X9_factorial_4, if_neg (by decide), zd_X9_factorial_4, if_pos (by decide)]; rfl
  · rw [zd_X9_factorial_4, if_neg (by decide), zd_X9_factorial_4, if_neg (by decide), zd_X9_factorial_4, if_neg (by decide), zd_X9_factorial_4, if_pos (by decide)]; rfl
/-- the chance of a set, up to k -/
def za_cc (s x : Nat) : Nat → Nat
  | 0 => 1
  | k + 1 => za_cc s x k * (if s.testBit k = true then 10 - x else x)
theorem ev_chance {s x m : Nat} (hm : Dm.1 9 1 = nI m) (h4 : m ≤ 4) (hs : s < 16) (hx : x ≤ 10) : zv_ev (dp + 1) 123 [.ref 0, .int (nI s), .int (nI x)] zS0 Dm = zo_i (nI (za_cc s x m)) Dm := by
  obtain ⟨-, -, r1⟩ := zl_up (σ := Unit) (fun k _ => zv_m zt_X8_chanceOf (zv_ev dp) false 5 [some (.ref 0), some (.int (nI s)), some (.int (nI x)), some (.int (nI (za_cc s x k))), some (.int (nI k))] [] zS0 (Dm.1, Dm.2)) m (fun _ _ => True) (by
    intro k _ hk _
    refine ⟨(), trivial, ?_⟩
    rw [zd_X8_chanceOf_5, hm, if_neg (nI_ge hk (by omega)), show (10 : Int32) - nI x = nI (10 - x) from pk_sub (a := 10) (b := x) hx, pk_mul, pk_mul, nI_1]
    have hb := zi_b1t (a := s) (k := k) (by omega) (by omega)
    show _ = zv_m zt_X8_chanceOf (zv_ev dp) false 5 [some (.ref 0), some (.int (nI s)), some (.int (nI x)), some (.int (nI (za_cc s x k * (if s.testBit k = true then 10 - x else x)))), some (.int (nI (k + 1)))] [] zS0 (Dm.1, Dm.2)
    by_cases hq : s.testBit k = true
    · rw [if_pos (hb ▸ hq), if_pos hq]
    · rw [if_neg (fun z => hq (hb ▸ z)), if_neg hq]) () trivial
  refine zs_X8_chanceOf ((zd_X8_chanceOf _ Dm.1 Dm.2 _ _).trans (r1.trans ?_))
  rw [zd_X8_chanceOf_5, hm, if_pos (nI_le (Nat.le_refl _) (by omega))]
end FR
theorem za_cc_pc {x : Nat} (hx : x ≤ 10) : ∀ m, m ≤ 4 → ∀ s, s < 2 ^ m → za_cc s x m = (10 - x) ^ za_pc s * x ^ (m - za_pc s) ∧ za_pc s ≤ m ∧ za_cc s x m ≤ 10000 := by
  have key : ∀ x, x ≤ 10 → ∀ m, m ≤ 4 → ∀ s, s < 2 ^ m → za_cc s x m = (10 - x) ^ za_pc s * x ^ (m - za_pc s) ∧ za_pc s ≤ m ∧ za_cc s x m ≤ 10000 := by decide +kernel
  exact key x hx
