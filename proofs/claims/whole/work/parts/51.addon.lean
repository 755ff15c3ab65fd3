theorem zM_R_ex {r r' : Nat → Int32} {T : zT} {X : zX} {A : zA} {v : Nat} (h : zM_R r T X A) (h3 : r' 3 = nI v) (h1 : ∀ k, k ≠ 3 → k < 101 → r' k = r k) (hm : zT_m T ≤ 4) : zM_R r' T (zX_se X v) A := by
  have h' : zM_R r T (zX_se X v) A → zM_R r' T (zX_se X v) A := fun z => zM_R_of z (fun k hk => by
    by_cases hk3 : k = 3
    · subst hk3; rw [h3]; exact z.2.2.2.1.symm
    · exact h1 k hk3 hk) hm
  unfold zM_R at h ⊢
  rw [h1 0 (by decide) (by decide), h1 1 (by decide) (by decide), h1 2 (by decide) (by decide), h1 4 (by decide) (by decide)]
  refine ⟨h.1, h.2.1, h.2.2.1, h3, h.2.2.2.2.1, fun k hk => ?_, fun k hk => ?_, fun e he => ?_, fun j k hj hk => ?_⟩
  · rw [h1 _ (by omega) (by omega)]; exact h.2.2.2.2.2.1 k hk
  · rw [h1 _ (by omega) (by omega)]; exact h.2.2.2.2.2.2.1 k hk
  · rw [h1 _ (by omega) (by omega), h1 _ (by omega) (by omega), h1 _ (by omega) (by omega), h1 _ (by omega) (by omega)]; exact h.2.2.2.2.2.2.2.1 e he
  · rw [h1 _ (by omega) (by omega), h1 _ (by omega) (by omega), h1 _ (by omega) (by omega)]; exact h.2.2.2.2.2.2.2.2 j k hj hk
theorem ev_addOn_119 {dp : Nat} {Dm : zv_D} {T : zT} {X : zX} {A : zA} {i : Nat} (hT : zT_ok T) (hX : zX_ok T X) (hR : zM_R (Dm.1 119) T X A) (hi : i < zT_n T) : ∃ g', (∀ x, x ≠ 119 → g' x = Dm.1 x) ∧ zM_R (g' 119) T (zX_se X (zX_ex X ^^^ 2 ^ i)) (zA_ad X A i) ∧ zv_ev (dp + 2) 176 [.ref 119, .int (nI i)] zS0 Dm = zo_v (g', Dm.2) := by
  have h5 := hT.2.1
  have hp := zp_lt hi
  have hm := zp_31 h5
  have hex := hX.2.2.2.2.2.1
  have c3 : Dm.1 119 3 = nI (zX_ex X) := hR.2.2.2.1
  have hx : zX_ex X ^^^ 2 ^ i < 2 ^ zT_n T := Nat.xor_lt_two_pow hex hp
  have hst := zd_X9_addOn_p119 (zv_ev (dp + 1)) Dm.1 Dm.2 (nI i)
  rw [c3, zi_sh (by omega), zi_xor (by omega) (by omega)] at hst
  have R1 : zM_R (zv_w Dm.1 119 3 (nI (zX_ex X ^^^ 2 ^ i)) 119) T (zX_se X (zX_ex X ^^^ 2 ^ i)) A := zM_R_ex hR (zw_same _ _ _ _) (fun k hk _ => zw_other _ _ _ hk) hT.2.2.1
  have fr1 : ∀ x, x ≠ 119 → zv_w Dm.1 119 3 (nI (zX_ex X ^^^ 2 ^ i)) x = Dm.1 x := fun x hx => zw_cell _ _ _ hx
  by_cases hb : (zX_ex X ^^^ 2 ^ i).testBit i = true
  · have e : zA_ad X A i = A := by
      funext j k
      unfold zA_ad
      rw [if_neg (fun z => by rw [hb] at z; exact Bool.noConfusion z.2.2)]
    rw [e]
    refine ⟨_, fr1, R1, zs_X9_addOn_p119 (hst.trans ?_)⟩
    rw [zd_X9_addOn_p119_11, if_neg (by decide), zw_same, zi_has (dp := dp) (zv_w Dm.1 119 3 (nI (zX_ex X ^^^ 2 ^ i)), Dm.2) (by omega) (by omega)]
    simp only [Option.bind_some]
    rw [if_pos hb, if_neg (by decide)]
  · obtain ⟨g1, ⟨f1, o1, n1⟩, r1⟩ := zl_up (fun k (s : Nat → Nat → Int32) => zv_m zt_X9_addOn (zv_ev (dp + 1)) false 11 [some (.ref 119), some (.int (nI i)), some (.int (nI k))] [] zS0 (s, Dm.2)) 3 (fun k s => (∀ x, x ≠ 119 → s x = Dm.1 x) ∧ (∀ q, q < 71 + 6 * i + 3 ∨ 71 + 6 * i + 3 + k ≤ q → s 119 q = zv_w Dm.1 119 3 (nI (zX_ex X ^^^ 2 ^ i)) 119 q) ∧ ∀ q, q < k → s 119 (71 + 6 * i + 3 + q) = -9) (by
      intro k s hk ⟨hf, ho, hn⟩
      have h2 := zd_X9_addOn_p119_11 (zv_ev (dp + 1)) s Dm.2 (nI i) (nI k)
      rw [if_neg (zi_ge 3 3 rfl hk (by decide)), ho 3 (by omega), zw_same, zi_has (dp := dp) (s, Dm.2) (by omega) (by omega)] at h2
      simp only [Option.bind_some] at h2
      rw [if_neg hb, if_pos rfl, show (Value.int 1) = Value.int (nI 1) from rfl, ev_at (dp := dp) (s, Dm.2), zx_at] at h2
      simp only [Option.bind_some] at h2
      rw [nI_add, zi_in (n := 101) (by omega) (by decide), nI_clamp (by omega), nI_1, cond_true] at h2
      refine ⟨zv_w s 119 (71 + 6 * i + 3 * 1 + k) (-9), ⟨fun x hx => (zw_cell _ _ _ hx).trans (hf x hx), fun q hq => ?_, fun q hq => ?_⟩, h2⟩
      · rw [zw_other _ _ _ (by omega)]; exact ho q (by omega)
      · by_cases hqk : q = k
        · subst hqk; exact zw_same _ _ _ _
        · rw [zw_other _ _ _ (by omega)]; exact hn q (by omega)) (zv_w Dm.1 119 3 (nI (zX_ex X ^^^ 2 ^ i))) ⟨fr1, fun _ _ => rfl, fun q hq => absurd hq (Nat.not_lt_zero q)⟩
    refine ⟨g1, f1, zM_R_mk R1 (fun q hq => o1 q (by omega)) (fun j q hj hq => ?_) hT.2.2.1, zs_X9_addOn_p119 (hst.trans (r1.trans ?_))⟩
    · have hbf : (zX_ex X ^^^ 2 ^ i).testBit i = false := by simpa using hb
      by_cases hji : j = i ∧ 3 ≤ q
      · obtain ⟨e, h3⟩ := hji
        subst e
        have := n1 (q - 3) (by omega)
        rw [show 71 + 6 * j + 3 + (q - 3) = 71 + 6 * j + q by omega] at this
        rw [this]
        refine (zm_v0 ?_).symm
        unfold zA_ad
        exact if_pos ⟨rfl, by omega, hbf⟩
      · rw [o1 _ (by omega), zM_R_t R1 hj hq]
        have e : zA_ad X A i j (q / 3) = A j (q / 3) := if_neg (fun z => hji ⟨z.1, by have := z.2.1; omega⟩)
        unfold zm_t
        rw [e]
    · rw [zd_X9_addOn_p119_11, if_pos (zi_le 3 3 rfl (by decide) (by decide))]
theorem ev_addOn_120 {dp : Nat} {Dm : zv_D} {T : zT} {X : zX} {A : zA} {i : Nat} (hT : zT_ok T) (hX : zX_ok T X) (hR : zM_R (Dm.1 120) T X A) (hi : i < zT_n T) : ∃ g', (∀ x, x ≠ 120 → g' x = Dm.1 x) ∧ zM_R (g' 120) T (zX_se X (zX_ex X ^^^ 2 ^ i)) (zA_ad X A i) ∧ zv_ev (dp + 2) 176 [.ref 120, .int (nI i)] zS0 Dm = zo_v (g', Dm.2) := by
  have h5 := hT.2.1
  have hp := zp_lt hi
  have hm := zp_31 h5
  have hex := hX.2.2.2.2.2.1
  have c3 : Dm.1 120 3 = nI (zX_ex X) := hR.2.2.2.1
  have hx : zX_ex X ^^^ 2 ^ i < 2 ^ zT_n T := Nat.xor_lt_two_pow hex hp
  have hst := zd_X9_addOn_p120 (zv_ev (dp + 1)) Dm.1 Dm.2 (nI i)
  rw [c3, zi_sh (by omega), zi_xor (by omega) (by omega)] at hst
  have R1 : zM_R (zv_w Dm.1 120 3 (nI (zX_ex X ^^^ 2 ^ i)) 120) T (zX_se X (zX_ex X ^^^ 2 ^ i)) A := zM_R_ex hR (zw_same _ _ _ _) (fun k hk _ => zw_other _ _ _ hk) hT.2.2.1
  have fr1 : ∀ x, x ≠ 120 → zv_w Dm.1 120 3 (nI (zX_ex X ^^^ 2 ^ i)) x = Dm.1 x := fun x hx => zw_cell _ _ _ hx
  by_cases hb : (zX_ex X ^^^ 2 ^ i).testBit i = true
  · have e : zA_ad X A i = A := by
      funext j k
      unfold zA_ad
      rw [if_neg (fun z => by rw [hb] at z; exact Bool.noConfusion z.2.2)]
    rw [e]
    refine ⟨_, fr1, R1, zs_X9_addOn_p120 (hst.trans ?_)⟩
    rw [zd_X9_addOn_p120_11, if_neg (by decide), zw_same, zi_has (dp := dp) (zv_w Dm.1 120 3 (nI (zX_ex X ^^^ 2 ^ i)), Dm.2) (by omega) (by omega)]
    simp only [Option.bind_some]
    rw [if_pos hb, if_neg (by decide)]
  · obtain ⟨g1, ⟨f1, o1, n1⟩, r1⟩ := zl_up (fun k (s : Nat → Nat → Int32) => zv_m zt_X9_addOn (zv_ev (dp + 1)) false 11 [some (.ref 120), some (.int (nI i)), some (.int (nI k))] [] zS0 (s, Dm.2)) 3 (fun k s => (∀ x, x ≠ 120 → s x = Dm.1 x) ∧ (∀ q, q < 71 + 6 * i + 3 ∨ 71 + 6 * i + 3 + k ≤ q → s 120 q = zv_w Dm.1 120 3 (nI (zX_ex X ^^^ 2 ^ i)) 120 q) ∧ ∀ q, q < k → s 120 (71 + 6 * i + 3 + q) = -9) (by
      intro k s hk ⟨hf, ho, hn⟩
      have h2 := zd_X9_addOn_p120_11 (zv_ev (dp + 1)) s Dm.2 (nI i) (nI k)
      rw [if_neg (zi_ge 3 3 rfl hk (by decide)), ho 3 (by omega), zw_same, zi_has (dp := dp) (s, Dm.2) (by omega) (by omega)] at h2
      simp only [Option.bind_some] at h2
      rw [if_neg hb, if_pos rfl, show (Value.int 1) = Value.int (nI 1) from rfl, ev_at (dp := dp) (s, Dm.2), zx_at] at h2
      simp only [Option.bind_some] at h2
      rw [nI_add, zi_in (n := 101) (by omega) (by decide), nI_clamp (by omega), nI_1, cond_true] at h2
      refine ⟨zv_w s 120 (71 + 6 * i + 3 * 1 + k) (-9), ⟨fun x hx => (zw_cell _ _ _ hx).trans (hf x hx), fun q hq => ?_, fun q hq => ?_⟩, h2⟩
      · rw [zw_other _ _ _ (by omega)]; exact ho q (by omega)
      · by_cases hqk : q = k
        · subst hqk; exact zw_same _ _ _ _
        · rw [zw_other _ _ _ (by omega)]; exact hn q (by omega)) (zv_w Dm.1 120 3 (nI (zX_ex X ^^^ 2 ^ i))) ⟨fr1, fun _ _ => rfl, fun q hq => absurd hq (Nat.not_lt_zero q)⟩
    refine ⟨g1, f1, zM_R_mk R1 (fun q hq => o1 q (by omega)) (fun j q hj hq => ?_) hT.2.2.1, zs_X9_addOn_p120 (hst.trans (r1.trans ?_))⟩
    · have hbf : (zX_ex X ^^^ 2 ^ i).testBit i = false := by simpa using hb
      by_cases hji : j = i ∧ 3 ≤ q
      · obtain ⟨e, h3⟩ := hji
        subst e
        have := n1 (q - 3) (by omega)
        rw [show 71 + 6 * j + 3 + (q - 3) = 71 + 6 * j + q by omega] at this
        rw [this]
        refine (zm_v0 ?_).symm
        unfold zA_ad
        exact if_pos ⟨rfl, by omega, hbf⟩
      · rw [o1 _ (by omega), zM_R_t R1 hj hq]
        have e : zA_ad X A i j (q / 3) = A j (q / 3) := if_neg (fun z => hji ⟨z.1, by have := z.2.1; omega⟩)
        unfold zm_t
        rw [e]
    · rw [zd_X9_addOn_p120_11, if_pos (zi_le 3 3 rfl (by decide) (by decide))]
