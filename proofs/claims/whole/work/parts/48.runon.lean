def zP (g g' : Nat → Nat → Int32) : Prop := (∀ x, x ≠ 116 → x ≠ 121 → x ≠ 128 → x ≠ 129 → x ≠ 130 → x ≠ 131 → x ≠ 132 → x ≠ 133 → g' x = g x) ∧ ∀ q, q < 24 ∨ 26 < q → g' 116 q = g 116 q
theorem zP_trans {g1 g2 g3 : Nat → Nat → Int32} (h1 : zP g1 g2) (h2 : zP g2 g3) : zP g1 g3 := ⟨fun x a b c d e f k l => (h2.1 x a b c d e f k l).trans (h1.1 x a b c d e f k l), fun q hq => (h2.2 q hq).trans (h1.2 q hq)⟩
theorem zP_of {g1 g2 : Nat → Nat → Int32} (h : ∀ x, x ≠ 121 → x ≠ 128 → x ≠ 129 → x ≠ 130 → x ≠ 131 → x ≠ 132 → x ≠ 133 → g2 x = g1 x) : zP g1 g2 := ⟨fun x _ b c d e f k l => h x b c d e f k l, fun q _ => congrFun (h 116 (by decide) (by decide) (by decide) (by decide) (by decide) (by decide) (by decide)) q⟩
/-- where the search for the same one stands -/
def zY (s : Nat → Nat → Int32) (S : Nat → zA) (n l : Nat) : Prop := (s 116 24 = 2 ∧ s 116 25 = -9 ∧ s 116 26 = -9 ∧ ∀ c, l ≤ c → c < n → S c ≠ S n) ∨ ∃ c, l ≤ c ∧ c < n ∧ S c = S n ∧ s 116 25 = nI c ∧ ((c = n - 1 ∧ s 116 24 = 0 ∧ s 116 26 = 0) ∨ (c ≠ n - 1 ∧ s 116 24 = 1 ∧ s 116 26 = nI (n - c)))
theorem zx_m1 (a : Int32) : a + (-1) = a - 1 := (Int32.sub_eq_add_neg a 1).symm
theorem zx_search {dp : Nat} {g : Nat → Nat → Int32} {h : Nat → Nat → Int64} {T : zT} {S : Nat → zA} {n : Nat} (hT : zT_ok T) (hS : ∀ k, za_W T (S k)) (hn : n ≤ 60) (hG : zG g S (n + 1)) (h24 : g 116 24 = 2) (h25 : g 116 25 = -9) (h26 : g 116 26 = -9) : ∃ g', (∀ x, x ≠ 116 → g' x = g x) ∧ (∀ q, q < 24 ∨ 26 < q → g' 116 q = g 116 q) ∧ zY g' S n 0 ∧ zv_m zt_X9_runOn (zv_ev (dp + 1)) false 60 [some (.ref 116), some (.ref 121), some (.int (nI n)), some (.int (nI n - 1))] [] zS0 (g, h) = zv_m zt_X9_runOn (zv_ev (dp + 1)) false 60 [some (.ref 116), some (.ref 121), some (.int (nI n)), some (.int (nI 0 - 1))] [] zS0 (g', h) := by
  obtain ⟨g1, ⟨f1, o1, y1⟩, r1⟩ := zl_up (fun t (s : Nat → Nat → Int32) => zv_m zt_X9_runOn (zv_ev (dp + 1)) false 60 [some (.ref 116), some (.ref 121), some (.int (nI n)), some (.int (nI (n - t) - 1))] [] zS0 (s, h)) n (fun t s => (∀ x, x ≠ 116 → s x = g x) ∧ (∀ q, q < 24 ∨ 26 < q → s 116 q = g 116 q) ∧ zY s S n (n - t)) (by
    intro t s ht ⟨hf, ho, hy⟩
    have hc : nI (n - t) - 1 = nI (n - (t + 1)) := by
      have := pk_sub (a := n - t) (b := 1) (by omega)
      rw [show n - t - 1 = n - (t + 1) by omega] at this
      exact this
    have hn1 : nI n - 1 = nI (n - 1) := pk_sub (a := n) (b := 1) (by omega)
    have hst := zd_X9_runOn_p121_60 (zv_ev (dp + 1)) s h (nI n) (nI (n - (t + 1)))
    rw [if_neg (nI_pos (by omega)), hn1, zx_m1, pk_sub (by omega)] at hst
    rw [hc]
    rcases hy with ⟨y1, y2, y3, y4⟩ | ⟨c, c1, c2, c3, c4, c5⟩
    · obtain ⟨v, hv, ev⟩ := ev_areSame (dp := dp) (s, h) (a := n - (t + 1)) (b := n) (by omega) hn
      have hcmp : (∀ q, q < 30 → s 133 (30 * (n - (t + 1)) + q) = s 133 (30 * n + q)) ↔ S (n - (t + 1)) = S n := by
        rw [hf 133 (by decide)]
        exact zG_same hT hS hG (by omega) (by omega)
      rw [if_pos y1, ev] at hst
      simp only [Option.bind_some] at hst
      rcases hv with ⟨rfl, hv⟩ | ⟨rfl, hv⟩
      · have hsame := hcmp.mp hv
        rw [if_neg (by decide)] at hst
        by_cases hl : n - (t + 1) = n - 1
        · rw [if_pos (by rw [hl]), if_pos (by rw [hl])] at hst
          refine ⟨zv_w (zv_w (zv_w s 116 24 0) 116 25 (nI (n - (t + 1)))) 116 26 0, ⟨fun x hx => (zw_cell _ _ _ hx).trans ((zw_cell _ _ _ hx).trans ((zw_cell _ _ _ hx).trans (hf x hx))), fun q hq => ?_, Or.inr ⟨n - (t + 1), Nat.le_refl _, by omega, hsame, ?_, Or.inl ⟨hl, ?_, ?_⟩⟩⟩, hst⟩
          · rw [zw_other _ _ _ (by omega), zw_other _ _ _ (by omega), zw_other _ _ _ (by omega)]; exact ho q hq
          · rw [zw_other _ _ _ (by decide), zw_same]
          · rw [zw_other _ _ _ (by decide), zw_other _ _ _ (by decide), zw_same]
          · rw [zw_same]
        · have hl' : ¬ nI (n - (t + 1)) = nI (n - 1) := fun z => hl ((nI_eq (by omega) (by omega)).mp z)
          rw [if_neg hl', if_neg hl'] at hst
          refine ⟨zv_w (zv_w (zv_w s 116 24 1) 116 25 (nI (n - (t + 1)))) 116 26 (nI (n - (n - (t + 1)))), ⟨fun x hx => (zw_cell _ _ _ hx).trans ((zw_cell _ _ _ hx).trans ((zw_cell _ _ _ hx).trans (hf x hx))), fun q hq => ?_, Or.inr ⟨n - (t + 1), Nat.le_refl _, by omega, hsame, ?_, Or.inr ⟨hl, ?_, ?_⟩⟩⟩, hst⟩
          · rw [zw_other _ _ _ (by omega), zw_other _ _ _ (by omega), zw_other _ _ _ (by omega)]; exact ho q hq
          · rw [zw_other _ _ _ (by decide), zw_same]
          · rw [zw_other _ _ _ (by decide), zw_other _ _ _ (by decide), zw_same]
          · rw [zw_same]
      · rw [if_pos rfl] at hst
        refine ⟨s, ⟨hf, ho, Or.inl ⟨y1, y2, y3, fun c hc1 hc2 => ?_⟩⟩, hst⟩
        by_cases hce : c = n - (t + 1)
        · subst hce; exact fun z => hv (hcmp.mpr z)
        · exact y4 c (by omega) hc2
    · have h2 : ¬ s 116 24 = 2 := by
        rcases c5 with q | q
        · rw [q.2.1]; decide
        · rw [q.2.1]; decide
      rw [if_neg h2] at hst
      exact ⟨s, ⟨hf, ho, Or.inr ⟨c, by omega, c2, c3, c4, c5⟩⟩, hst⟩) g ⟨fun _ _ => rfl, fun _ _ => rfl, Or.inl ⟨h24, h25, h26, fun c h1 h2 => absurd h2 (by omega)⟩⟩
  rw [Nat.sub_self] at y1
  rw [Nat.sub_self, Nat.sub_zero] at r1
  exact ⟨g1, f1, o1, y1, r1⟩
