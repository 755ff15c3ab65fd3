def zH (g : Nat → Nat → Int32) (S : Nat → zA) (k : Nat) : Prop := ∀ r j, r < k → j < 5 → g 39 (5 * r + j) = nI (S r j 0 + 2048 * S r j 1)
theorem ev_record {dp : Nat} (Dm : zv_D) {r : Nat} (hr : r ≤ 60) : ∃ g', (∀ x, x ≠ 39 → g' x = Dm.1 x) ∧ (∀ q, q < 5 * r ∨ 5 * r + 5 ≤ q → g' 39 q = Dm.1 39 q) ∧ (∀ j, j < 5 → g' 39 (5 * r + j) = Dm.1 31 j) ∧ zv_ev (dp + 1) 5 [.ref 38, .ref 27, .int (nI r)] zS0 Dm = zo_v (g', Dm.2) := by
  have hst := zd_X0_record (zv_ev dp) Dm.1 Dm.2 (nI r)
  have e5 : nI r * 5 = nI (5 * r) := by rw [show (5 : Int32) = nI 5 from rfl, pk_mul, Nat.mul_comm]
  have hok : zv_cok 0 (nI (5 * r)) 5 5 305 = true := by
    unfold zv_cok
    have e0 : (0 : Int32).toNatClampNeg = 0 := rfl
    have e5 : (5 : Int32).toNatClampNeg = 5 := rfl
    have hp := nI_pos (n := 5 * r) (by omega)
    rw [e0, e5, nI_clamp (by omega)]
    simp [hp]
    omega
  rw [if_neg (nI_pos (by omega)), if_neg (show ¬ (60 : Int32) < nI r from nI_nlt (a := 60) (b := r) hr (by decide)), e5, hok, nI_clamp (by omega)] at hst
  simp only [Bool.and_self, cond_true] at hst
  refine ⟨_, fun x hx => if_neg hx, fun q hq => ?_, fun j hj => ?_, zs_X0_record hst⟩
  · show (if 39 = 39 then va_cpy (Dm.1 31) (Dm.1 39) 0 (5 * r) 5 else Dm.1 39) q = _
    rw [if_pos rfl, pk_cpy_out (by omega)]
  · show (if 39 = 39 then va_cpy (Dm.1 31) (Dm.1 39) 0 (5 * r) 5 else Dm.1 39) (5 * r + j) = _
    rw [if_pos rfl, pk_cpy_in (by omega) (by omega), Nat.zero_add, Nat.add_sub_cancel_left]
theorem ev_alike {dp : Nat} (Dm : zv_D) {a b : Nat} (ha : a ≤ 60) (hb : b ≤ 60) : ∃ v, (v = 1 ∧ (∀ j, j < 5 → Dm.1 39 (5 * a + j) = Dm.1 39 (5 * b + j)) ∨ v = 0 ∧ ¬ ∀ j, j < 5 → Dm.1 39 (5 * a + j) = Dm.1 39 (5 * b + j)) ∧ zv_ev (dp + 1) 7 [.ref 38, .int (nI a), .int (nI b)] zS0 Dm = zo_i v Dm := by
  have hst := zd_X0_alike (zv_ev dp) Dm.1 Dm.2 (nI a) (nI b)
  rw [if_neg (nI_pos (by omega)), if_neg (show ¬ (60 : Int32) < nI a from nI_nlt (a := 60) (b := a) ha (by decide)), if_neg (nI_pos (by omega)), if_pos (show nI b ≤ 60 from nI_le (b := 60) hb (by decide))] at hst
  rcases zl_ex (σ := Unit) (fun k _ => zv_m zt_X0_alike (zv_ev dp) true 24 [some (.ref 38), some (.int (nI a)), some (.int (nI b)), some (.int (nI k))] [] zS0 (Dm.1, Dm.2)) 5 (fun k _ => ∀ j, j < k → Dm.1 39 (5 * a + j) = Dm.1 39 (5 * b + j)) (fun z => z = zv_ri 0 zS0 (Dm.1, Dm.2) ∧ ¬ ∀ j, j < 5 → Dm.1 39 (5 * a + j) = Dm.1 39 (5 * b + j)) (by
    intro k _ hk hI
    have h2 := zd_X0_alike_24 (zv_ev dp) Dm.1 Dm.2 (nI a) (nI b) (nI k)
    have ea : nI a * 5 + nI k = nI (5 * a + k) := by rw [show (5 : Int32) = nI 5 from rfl, pk_mul, nI_add, Nat.mul_comm]
    have eb : nI b * 5 + nI k = nI (5 * b + k) := by rw [show (5 : Int32) = nI 5 from rfl, pk_mul, nI_add, Nat.mul_comm]
    rw [if_neg (zi_ge 5 5 rfl hk (by decide)), ea, eb, zi_in (n := 305) (by omega) (by decide), zi_in (n := 305) (by omega) (by decide), nI_clamp (by omega), nI_clamp (by omega), nI_1] at h2
    simp only [cond_true] at h2
    by_cases he : Dm.1 39 (5 * a + k) = Dm.1 39 (5 * b + k)
    · rw [if_pos he] at h2
      refine Or.inr ⟨(), fun j hj => ?_, h2⟩
      by_cases hjk : j = k
      · subst hjk; exact he
      · exact hI j (by omega)
    · rw [if_neg he] at h2
      exact Or.inl ⟨h2, fun z => he (z k hk)⟩) () (fun j hj => absurd hj (Nat.not_lt_zero j)) with ⟨q1, q2⟩ | ⟨-, q1, q2⟩
  · exact ⟨0, Or.inr ⟨rfl, q2⟩, zs_X0_alike (hst.trans q1)⟩
  · refine ⟨1, Or.inl ⟨rfl, q1⟩, zs_X0_alike (hst.trans (q2.trans ?_))⟩
    rw [zd_X0_alike_24, if_pos (zi_le 5 5 rfl (by decide) (by decide))]
/-- the first of the earlier ones that is the same -/
theorem ev_earlier {dp : Nat} (Dm : zv_D) {T : zT} {S : Nat → zA} {r : Nat} (hT : zT_ok T) (hS : ∀ k, za_W T (S k)) (hr : r ≤ 60) (hH : zH Dm.1 S (r + 1)) : (∃ c, c < r ∧ S c = S r ∧ zv_ev (dp + 2) 6 [.ref 38, .int (nI r)] zS0 Dm = zo_i (nI c) Dm) ∨ ((∀ c, c < r → S c ≠ S r) ∧ zv_ev (dp + 2) 6 [.ref 38, .int (nI r)] zS0 Dm = zo_i (-1) Dm) := by
  have cmp : ∀ c, c ≤ r → ((∀ j, j < 5 → Dm.1 39 (5 * c + j) = Dm.1 39 (5 * r + j)) ↔ S c = S r) := by
    intro c hc
    rw [← zA_code hT (hS c) (hS r)]
    constructor
    · intro h j hj; rw [← hH c j (by omega) hj, ← hH r j (by omega) hj]; exact h j hj
    · intro h j hj; rw [hH c j (by omega) hj, hH r j (by omega) hj]; exact h j hj
  rcases zl_ex (σ := Unit) (fun k _ => zv_m zt_X0_earlier (zv_ev (dp + 1)) false 2 [some (.ref 38), some (.int (nI r)), some (.int (nI k))] [] zS0 (Dm.1, Dm.2)) r (fun k _ => ∀ c, c < k → S c ≠ S r) (fun z => ∃ c, c < r ∧ S c = S r ∧ z = zv_ri (nI c) zS0 (Dm.1, Dm.2)) (by
    intro k _ hk hI
    have h2 := zd_X0_earlier_2 (zv_ev (dp + 1)) Dm.1 Dm.2 (nI r) (nI k)
    obtain ⟨v, hv, ev⟩ := ev_alike (dp := dp) (Dm.1, Dm.2) (a := k) (b := r) (by omega) hr
    rw [if_neg (nI_ge hk (by omega)), ev, nI_1] at h2
    simp only [Option.bind_some] at h2
    rcases hv with ⟨rfl, hv⟩ | ⟨rfl, hv⟩
    · rw [if_neg (by decide)] at h2
      exact Or.inl ⟨k, hk, (cmp k (by omega)).mp hv, h2⟩
    · rw [if_pos rfl] at h2
      refine Or.inr ⟨(), fun c hc => ?_, h2⟩
      by_cases hck : c = k
      · subst hck; exact fun z => hv ((cmp c (by omega)).mpr z)
      · exact hI c (by omega)) () (fun c hc => absurd hc (Nat.not_lt_zero c)) with ⟨c, q1, q2, q3⟩ | ⟨-, q1, q2⟩
  · exact Or.inl ⟨c, q1, q2, zs_X0_earlier ((zd_X0_earlier _ Dm.1 Dm.2 _).trans q3)⟩
  · refine Or.inr ⟨q1, zs_X0_earlier ((zd_X0_earlier _ Dm.1 Dm.2 _).trans (q2.trans ?_))⟩
    rw [zd_X0_earlier_2, if_pos (nI_le (Nat.le_refl _) (by omega))]
