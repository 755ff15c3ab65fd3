def zG (g : Nat → Nat → Int32) (S : Nat → zA) (k : Nat) : Prop := ∀ r j q, r < k → j < 5 → q < 6 → g 133 (30 * r + (6 * j + q)) = zm_t (S r j) q
theorem ev_noteState {dp : Nat} (Dm : zv_D) {r : Nat} (hr : r ≤ 60) : ∃ g', (∀ x, x ≠ 133 → g' x = Dm.1 x) ∧ (∀ q, q < 30 * r ∨ 30 * r + 30 ≤ q → g' 133 q = Dm.1 133 q) ∧ (∀ k, k < 30 → g' 133 (30 * r + k) = Dm.1 121 (71 + k)) ∧ zv_ev (dp + 1) 186 [.ref 116, .ref 121, .int (nI r)] zS0 Dm = zo_v (g', Dm.2) := by
  obtain ⟨g1, ⟨f1, o1, n1⟩, r1⟩ := zl_up (fun k (s : Nat → Nat → Int32) => zv_m zt_X9_noteState (zv_ev dp) false 2 [some (.ref 116), some (.ref 121), some (.int (nI r)), some (.int (nI k))] [] zS0 (s, Dm.2)) 30 (fun k s => (∀ x, x ≠ 133 → s x = Dm.1 x) ∧ (∀ q, q < 30 * r ∨ 30 * r + k ≤ q → s 133 q = Dm.1 133 q) ∧ ∀ q, q < k → s 133 (30 * r + q) = Dm.1 121 (71 + q)) (by
    intro k s hk ⟨hf, ho, hn⟩
    have hst := zd_X9_noteState_p121_2 (zv_ev dp) s Dm.2 (nI r) (nI k)
    rw [if_neg (zi_ge 30 30 rfl hk (by decide)), show (71 : Int32) + nI k = nI (71 + k) from nI_add 71 k, show (30 : Int32) * nI r = nI (30 * r) from pk_mul 30 r, nI_add, zi_in (n := 101) (by omega) (by decide), zi_in (n := 1830) (by omega) (by decide), nI_clamp (by omega), nI_clamp (by omega), nI_1] at hst
    simp only [cond_true] at hst
    refine ⟨_, ⟨fun x hx => (zw_cell _ _ _ hx).trans (hf x hx), fun q hq => ?_, fun q hq => ?_⟩, hst⟩
    · rw [zw_other _ _ _ (by omega)]; exact ho q (by omega)
    · by_cases hqk : q = k
      · subst hqk; rw [zw_same, hf 121 (by decide)]
      · rw [zw_other _ _ _ (by omega)]; exact hn q (by omega)) Dm.1 ⟨fun _ _ => rfl, fun _ _ => rfl, fun q hq => absurd hq (Nat.not_lt_zero q)⟩
  refine ⟨g1, f1, o1, n1, zs_X9_noteState_p121 ((zd_X9_noteState_p121 _ Dm.1 Dm.2 _).trans (r1.trans ?_))⟩
  rw [zd_X9_noteState_p121_2, if_pos (zi_le 30 30 rfl (by decide) (by decide))]
theorem ev_areSame {dp : Nat} (Dm : zv_D) {a b : Nat} (ha : a ≤ 60) (hb : b ≤ 60) : ∃ v, (v = 1 ∧ (∀ k, k < 30 → Dm.1 133 (30 * a + k) = Dm.1 133 (30 * b + k)) ∨ v = 0 ∧ ¬ ∀ k, k < 30 → Dm.1 133 (30 * a + k) = Dm.1 133 (30 * b + k)) ∧ zv_ev (dp + 1) 187 [.ref 116, .int (nI a), .int (nI b)] zS0 Dm = zo_i v Dm := by
  obtain ⟨v, hv, r1⟩ := zl_up (fun k (v : Int32) => zv_m zt_X9_areSame (zv_ev dp) true 5 [some (.ref 116), some (.int (nI a)), some (.int (nI b)), some (.int v), some (.int (nI k))] [] zS0 (Dm.1, Dm.2)) 30 (fun k v => (v = 1 ∧ (∀ q, q < k → Dm.1 133 (30 * a + q) = Dm.1 133 (30 * b + q)) ∨ v = 0 ∧ ¬ ∀ q, q < 30 → Dm.1 133 (30 * a + q) = Dm.1 133 (30 * b + q))) (by
    intro k v hk hv
    have hst := zd_X9_areSame_5 (zv_ev dp) Dm.1 Dm.2 (nI a) (nI b) v (nI k)
    rw [if_neg (zi_ge 30 30 rfl hk (by decide)), show (30 : Int32) * nI a = nI (30 * a) from pk_mul 30 a, show (30 : Int32) * nI b = nI (30 * b) from pk_mul 30 b, nI_add, nI_add, zi_in (n := 1830) (by omega) (by decide), zi_in (n := 1830) (by omega) (by decide), nI_clamp (by omega), nI_clamp (by omega), nI_1] at hst
    simp only [cond_true] at hst
    rcases hv with ⟨rfl, hv⟩ | ⟨rfl, hv⟩
    · rw [if_neg (by decide)] at hst
      by_cases he : Dm.1 133 (30 * a + k) = Dm.1 133 (30 * b + k)
      · rw [if_pos he] at hst
        refine ⟨1, Or.inl ⟨rfl, fun q hq => ?_⟩, hst⟩
        by_cases hqk : q = k
        · subst hqk; exact he
        · exact hv q (by omega)
      · rw [if_neg he] at hst
        exact ⟨0, Or.inr ⟨rfl, fun z => he (z k hk)⟩, hst⟩
    · rw [if_pos rfl] at hst
      exact ⟨0, Or.inr ⟨rfl, hv⟩, hst⟩) 1 (Or.inl ⟨rfl, fun q hq => absurd hq (Nat.not_lt_zero q)⟩)
  refine ⟨v, hv, zs_X9_areSame ((zd_X9_areSame _ Dm.1 Dm.2 _ _).trans (r1.trans ?_))⟩
  rw [zd_X9_areSame_5, if_pos (zi_le 30 30 rfl (by decide) (by decide))]
  rcases hv with ⟨rfl, -⟩ | ⟨rfl, -⟩ <;> rfl
theorem zG_same {T : zT} {g : Nat → Nat → Int32} {S : Nat → zA} {k a b : Nat} (hT : zT_ok T) (hS : ∀ k, za_W T (S k)) (hG : zG g S k) (ha : a < k) (hb : b < k) : (∀ q, q < 30 → g 133 (30 * a + q) = g 133 (30 * b + q)) ↔ S a = S b := by
  rw [← zA_cells hT (hS a) (hS b)]
  constructor
  · intro h j q hj hq
    rw [← hG a j q ha hj hq, ← hG b j q hb hj hq]
    exact h (6 * j + q) (by omega)
  · intro h q hq
    have e : q = 6 * (q / 6) + q % 6 := by omega
    rw [e, hG a (q / 6) (q % 6) ha (by omega) (by omega), hG b (q / 6) (q % 6) hb (by omega) (by omega)]
    exact h (q / 6) (q % 6) (by omega) (by omega)
