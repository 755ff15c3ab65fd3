/-! ===== steps: the other side ===== -/
def zm_t (tk : Nat → Nat) (q : Nat) : Int32 := zm_v (tk (q / 3)) (if q % 3 = 0 then zc_e (tk (q / 3)) else if q % 3 = 1 then zc_f (tk (q / 3)) else zc_m (tk (q / 3)))
theorem zm_t0 (tk : Nat → Nat) (k : Nat) : zm_t tk (3 * k) = zm_v (tk k) (zc_e (tk k)) := by
  unfold zm_t
  rw [show 3 * k / 3 = k by omega, if_pos (by omega)]
theorem zm_t1 (tk : Nat → Nat) (k : Nat) : zm_t tk (3 * k + 1) = zm_v (tk k) (zc_f (tk k)) := by
  unfold zm_t
  rw [show (3 * k + 1) / 3 = k by omega, if_neg (by omega), if_pos (by omega)]
theorem zm_t2 (tk : Nat → Nat) (k : Nat) : zm_t tk (3 * k + 2) = zm_v (tk k) (zc_m (tk k)) := by
  unfold zm_t
  rw [show (3 * k + 2) / 3 = k by omega, if_neg (by omega), if_neg (by omega)]
theorem zm_q6 {q : Nat} (h : q < 6) : ∃ k, k < 2 ∧ (q = 3 * k ∨ q = 3 * k + 1 ∨ q = 3 * k + 2) := ⟨q / 3, by omega, by omega⟩
theorem zM_R_t {r : Nat → Int32} {T : zT} {X : zX} {A : zA} (h : zM_R r T X A) {j q : Nat} (hj : j < 5) (hq : q < 6) : r (71 + 6 * j + q) = zm_t (A j) q := by
  obtain ⟨k, hk, e | e | e⟩ := zm_q6 hq
  · rw [e, zm_t0]; exact (h.2.2.2.2.2.2.2.2 j k hj hk).1
  · rw [e, zm_t1]; exact (h.2.2.2.2.2.2.2.2 j k hj hk).2.1
  · rw [e, zm_t2]; exact (h.2.2.2.2.2.2.2.2 j k hj hk).2.2
theorem zM_R_mk {r r' : Nat → Int32} {T : zT} {X : zX} {A A' : zA} (h : zM_R r T X A) (h1 : ∀ q, q < 71 → r' q = r q) (h2 : ∀ j q, j < 5 → q < 6 → r' (71 + 6 * j + q) = zm_t (A' j) q) (hm : zT_m T ≤ 4) : zM_R r' T X A' := by
  unfold zM_R at h ⊢
  rw [h1 0 (by decide), h1 1 (by decide), h1 2 (by decide), h1 3 (by decide), h1 4 (by decide)]
  refine ⟨h.1, h.2.1, h.2.2.1, h.2.2.2.1, h.2.2.2.2.1, fun k hk => ?_, fun k hk => ?_, fun e he => ?_, fun j k hj hk => ⟨?_, ?_, ?_⟩⟩
  · rw [h1 _ (by omega)]; exact h.2.2.2.2.2.1 k hk
  · rw [h1 _ (by omega)]; exact h.2.2.2.2.2.2.1 k hk
  · rw [h1 _ (by omega), h1 _ (by omega), h1 _ (by omega), h1 _ (by omega)]; exact h.2.2.2.2.2.2.2.1 e he
  · rw [← zm_t0]; exact h2 j (3 * k) hj (by omega)
  · rw [← zm_t1]; exact h2 j (3 * k + 1) hj (by omega)
  · rw [← zm_t2]; exact h2 j (3 * k + 2) hj (by omega)
theorem zm_t_inj {T : zT} {i : Nat} {a b : Nat → Nat} (ha : ∀ k, k < 2 → za_R T i (a k)) (hb : ∀ k, k < 2 → za_R T i (b k)) : (∀ q, q < 6 → zm_t a q = zm_t b q) ↔ (a 0 = b 0 ∧ a 1 = b 1) := by
  have one : ∀ k, k < 2 → ((∀ q, q < 6 → zm_t a q = zm_t b q) → a k = b k) := by
    intro k hk h
    have h0 := h (3 * k) (by omega)
    have h1 := h (3 * k + 1) (by omega)
    have h2 := h (3 * k + 2) (by omega)
    rw [zm_t0, zm_t0] at h0
    rw [zm_t1, zm_t1] at h1
    rw [zm_t2, zm_t2] at h2
    have le1 := zc_e_lt (a k)
    have le2 := zc_e_lt (b k)
    have lf1 := zc_f_lt (a k)
    have lf2 := zc_f_lt (b k)
    have lm1 := zc_m_lt (a k)
    have lm2 := zc_m_lt (b k)
    by_cases za : a k = 0
    · rw [zm_v0 za] at h0
      rw [za, (zm_v9 (by omega)).mp h0.symm]
    · have zb : b k ≠ 0 := by
        intro zb
        rw [zm_v0 zb] at h0
        exact za ((zm_v9 (by omega)).mp h0)
      rw [zm_v1 za, zm_v1 zb] at h0 h1 h2
      rcases ha k hk with q | q
      · exact absurd q za
      · rcases hb k hk with q' | q'
        · exact absurd q' zb
        · exact zc_inj q.1 q.2.1 q'.1 q'.2.1 ((nI_eq (by omega) (by omega)).mp h0) ((nI_eq (by omega) (by omega)).mp h1) ((nI_eq (by omega) (by omega)).mp h2)
  refine ⟨fun h => ⟨one 0 (by decide) h, one 1 (by decide) h⟩, fun h q hq => ?_⟩
  unfold zm_t
  have : q / 3 = 0 ∨ q / 3 = 1 := by omega
  rcases this with e | e
  · rw [e, h.1]
  · rw [e, h.2]
def zM_N (g : Nat → Nat → Int32) (tk : Nat → Nat) : Prop := ∀ q, q < 6 → g 131 q = zm_t tk q
theorem zx_3 {k : Nat} : (3 : Int32) * nI k = nI (3 * k) := pk_mul 3 k
theorem ev_putTaken {dp : Nat} {Dm : zv_D} {off : Nat → Nat} {k pp : Nat} (hk : k < 2) (hp : pp ≤ 4) (hO : zM_O Dm.1 off) (h1 : pp < 4 → off pp ≠ 0 ∧ zc_e (off pp) = pp) :
    ∃ g', (∀ x, x ≠ 131 → g' x = Dm.1 x) ∧ (∀ q, q < 3 * k ∨ 3 * k + 3 ≤ q → g' 131 q = Dm.1 131 q) ∧ (∀ q, q < 3 → g' 131 (3 * k + q) = zm_t (fun _ => if pp = 4 then 0 else off pp) q) ∧ zv_ev (dp + 1) 165 [.ref 116, .int (nI k), .int (zf_p9 pp)] zS0 Dm = zo_v (g', Dm.2) := by
  have hst := zd_X9_putTaken (zv_ev dp) Dm.1 Dm.2 (nI k) (zf_p9 pp)
  rw [zx_3, zx_add _ 1 1 rfl, zx_add _ 2 2 rfl, zi_in (n := 6) (by omega) (by decide), zi_in (n := 6) (by omega) (by decide), zi_in (n := 6) (by omega) (by decide), nI_clamp (by omega), nI_clamp (by omega), nI_clamp (by omega)] at hst
  simp only [cond_true] at hst
  have gen : ∀ (a b c : Int32), zv_m zt_X9_putTaken (zv_ev dp) false 0 [some (.ref 116), some (.int (nI k)), some (.int (zf_p9 pp))] [] zS0 (Dm.1, Dm.2) = zv_rv zS0 (zv_w (zv_w (zv_w Dm.1 131 (3 * k) a) 131 (3 * k + 1) b) 131 (3 * k + 2) c, Dm.2) → a = zm_t (fun _ => if pp = 4 then 0 else off pp) 0 → b = zm_t (fun _ => if pp = 4 then 0 else off pp) 1 → c = zm_t (fun _ => if pp = 4 then 0 else off pp) 2 → ∃ g', (∀ x, x ≠ 131 → g' x = Dm.1 x) ∧ (∀ q, q < 3 * k ∨ 3 * k + 3 ≤ q → g' 131 q = Dm.1 131 q) ∧ (∀ q, q < 3 → g' 131 (3 * k + q) = zm_t (fun _ => if pp = 4 then 0 else off pp) q) ∧ zv_ev (dp + 1) 165 [.ref 116, .int (nI k), .int (zf_p9 pp)] zS0 Dm = zo_v (g', Dm.2) := by
    intro a b c hz ha hb hc
    refine ⟨_, fun x hx => (zw_cell _ _ _ hx).trans ((zw_cell _ _ _ hx).trans (zw_cell _ _ _ hx)), fun q hq => ?_, fun q hq => ?_, zs_X9_putTaken hz⟩
    · rw [zw_other _ _ _ (by omega), zw_other _ _ _ (by omega), zw_other _ _ _ (by omega)]
    · have : q = 0 ∨ q = 1 ∨ q = 2 := by omega
      rcases this with rfl | rfl | rfl
      · rw [zw_other _ _ _ (by omega), zw_other _ _ _ (by omega), Nat.add_zero, zw_same, ha]
      · rw [zw_other _ _ _ (by omega), zw_same, hb]
      · rw [zw_same, hc]
  by_cases h4 : pp = 4
  · have e9 : zf_p9 pp = -9 := if_pos h4
    rw [e9, if_pos rfl, if_pos rfl] at hst
    refine gen (-9) (-9) (-9) (by rw [e9]; exact hst) ?_ ?_ ?_
    · unfold zm_t; simp [h4, zm_v]
    · unfold zm_t; simp [h4, zm_v]
    · unfold zm_t; simp [h4, zm_v]
  · have e9 : zf_p9 pp = nI pp := if_neg h4
    obtain ⟨q1, q2⟩ := h1 (by omega)
    have n9 : ¬ nI pp = -9 := zi_ne9 (by omega)
    rw [e9, if_neg n9, if_neg n9, zi_in (k := pp) (by omega) (by decide), nI_clamp (n := pp) (by omega)] at hst
    simp only [cond_true] at hst
    rw [zw_cell _ _ _ (by decide : 130 ≠ 131), zw_cell _ _ _ (by decide : 130 ≠ 131), zw_cell _ _ _ (by decide : 129 ≠ 131), (hO pp (by omega)).1, (hO pp (by omega)).2] at hst
    refine gen _ _ _ (by rw [e9]; exact hst) ?_ ?_ ?_
    · unfold zm_t; simp [h4, zm_v, q1, q2]
    · unfold zm_t; simp [h4, zm_v, q1]
    · unfold zm_t; simp [h4, zm_v, q1]
theorem za_d_self (co : Nat → Nat) (s i : Nat) : za_d co s i i = 0 := by
  induction s with
  | zero => show (if i = i then 0 else _) = 0; rw [if_pos rfl]
  | succ s ih => show min (za_d co s i i) _ = 0; rw [ih]; exact Nat.zero_min _
theorem za_of_near {T : zT} {X : zX} {A : zA} {i : Nat} : ∀ j e, za_of T X A i j e ≠ 0 → za_di (zX_co X) i (zT_pl T e) < 1000 := by
  have one : ∀ j c off, (∀ e, off e ≠ 0 → za_di (zX_co X) i (zT_pl T e) < 1000) → ∀ e, za_h1 T X i j c off e ≠ 0 → za_di (zX_co X) i (zT_pl T e) < 1000 := by
    intro j c off ho e he
    unfold za_h1 at he
    by_cases hk : za_ok T X i j c = true
    · rw [if_pos hk] at he
      by_cases hb : za_be off j c = true
      · rw [if_pos hb] at he
        by_cases hec : e = zc_e c
        · unfold za_ok za_nr at hk
          simp only [Bool.and_eq_true, decide_eq_true_eq] at hk
          rw [hec]; exact hk.2.2.2.2
        · rw [if_neg hec] at he
          exact ho e he
      · rw [if_neg hb] at he; exact ho e he
    · rw [if_neg hk] at he; exact ho e he
  intro j
  induction j with
  | zero =>
    intro e he
    have he' : za_o0 T X i e ≠ 0 := he
    unfold za_o0 at he'
    by_cases h : e < 4 ∧ za_ow T X i e = true
    · have h2 := h.2
      unfold za_ow za_at at h2
      simp only [Bool.and_eq_true, decide_eq_true_eq] at h2
      rw [h2.1.2]
      unfold za_di
      rw [za_d_self]
      decide
    · rw [if_neg h] at he'; exact absurd rfl he'
  | succ j ih => exact one j _ _ (one j _ _ ih)
theorem za_hd_e {T : zT} {X : zX} {A : zA} {i e : Nat} (hT : zT_ok T) (hW : za_W T A) (hi : i < zT_n T) (h : za_hd T X A i e ≠ 0) : zc_e (za_hd T X A i e) = e := by
  obtain ⟨h1, h2, f, mk, h3, h4, h5, h6⟩ := za_Fn hT hW hi (X := X) (zT_n T) (Nat.le_refl _) e h
  have h3' : za_hd T X A i e = zc_k e f mk := h3
  have := hT.2.1
  rw [h3', zc_ek h2 (by omega) h5]
theorem ev_mtake_119 {dp : Nat} {Dm : zv_D} {T : zT} {X : zX} {A : zA} {i : Nat} (hT : zT_ok T) (hX : zX_ok T X) (hR : zM_R (Dm.1 119) T X A) (hK : zM_K Dm.1 T X) (hW : za_W T A) (hi : i < zT_n T) :
    ∃ g', (∀ x, x ≠ 129 → x ≠ 130 → x ≠ 131 → g' x = Dm.1 x) ∧ zM_N g' (za_de T X A i) ∧ zv_ev (dp + 5) 166 [.ref 116, .ref 119, .int (nI i)] zS0 Dm = zo_v (g', Dm.2) := by
  have h5 := hT.2.1
  have hex : zX_ex X < 32 := by
    have h1 := hX.2.2.2.2.2.1
    have : 2 ^ zT_n T ≤ 2 ^ 5 := Nat.pow_le_pow_right (by decide) h5
    omega
  obtain ⟨g1, f1, o1, r1⟩ := ev_gather_119 (dp := dp + 1) (Dm := (Dm.1, Dm.2)) hT hX hR hK hW hi
  dsimp only at f1 r1
  have s16 := za_set_lt (za_hd T X A i)
  have hfl : ∀ e, zc_f (za_hd T X A i e) < 8 := fun e => zc_f_lt _
  have good : ∀ (g' : Nat → Nat → Int32), (∀ x, x ≠ 131 → g' x = g1 x) → zM_R (g' 119) T X A ∧ zM_K g' T X ∧ ∀ s : Nat, (∀ e, e < 4 → s.testBit e = true → za_hd T X A i e ≠ 0) → ∀ e, e < 4 → s.testBit e = true → e < zT_m T ∧ za_di (zX_co X) i (zT_pl T e) < 1000 ∧ (g' 129 e = nI i ↔ zT_pl T e = i) := by
    intro g' hg
    refine ⟨by rw [hg 119 (by decide), f1 119 (by decide) (by decide)]; exact hR, fun a b ha hb => (congrFun ((hg 128 (by decide)).trans (f1 128 (by decide) (by decide))) _).trans (hK a b ha hb), fun s hs e he hb => ?_⟩
    have hne := hs e he hb
    obtain ⟨q1, q2, f, mk, q3, q4, q5, q6⟩ := za_Fn hT hW hi (X := X) (zT_n T) (Nat.le_refl _) e hne
    have q3' : za_hd T X A i e = zc_k e f mk := q3
    refine ⟨q1, za_of_near _ e hne, ?_⟩
    rw [hg 129 (by decide), (o1 e he).1, zm_v1 hne, q3', zc_fk (by omega) q5, nI_eq (by omega) (by omega)]
    rcases q6 with q6 | q6
    · exact ⟨fun _ => q6.2.2, fun _ => q6.1⟩
    · exact ⟨fun z => absurd z q6.2.1, fun z => absurd z q6.2.2.2.1⟩
  have hbits : ∀ e, e < 4 → (za_set (za_hd T X A i)).testBit e = true → za_hd T X A i e ≠ 0 := fun e he hb => by rw [za_set_tb he] at hb; exact of_decide_eq_true hb
  obtain ⟨R1, K1, G1⟩ := good g1 (fun _ _ => rfl)
  have b1 := ev_best_119 (dp := dp) (Dm := (g1, Dm.2)) hT hX R1 K1 hi s16 (G1 _ hbits)
  have hle1 : za_s1 T X A i ≤ 4 := za_pk_le _ _ _ _
  obtain ⟨g2, f2, n2, o2, r2⟩ := ev_putTaken (dp := dp + 3) (Dm := (g1, Dm.2)) (off := za_hd T X A i) (k := 0) (pp := za_s1 T X A i) (by decide) hle1 o1 (fun h4 => ⟨za_s1_ne h4, za_hd_e hT hW hi (za_s1_ne h4)⟩)
  dsimp only at f2 n2 r2
  have hst := zd_X9_take_p119 (zv_ev (dp + 4)) Dm.1 Dm.2 (nI i)
  rw [r1] at hst
  simp only [Option.bind_some] at hst
  rw [ev_gathered (dp := dp + 3) (Dm := (g1, Dm.2)) (off := za_hd T X A i) (fun e he => by dsimp only; rw [(o1 e he).1]; exact zm_v9 (by have := hfl e; omega))] at hst
  simp only [Option.bind_some] at hst
  rw [b1] at hst
  simp only [Option.bind_some] at hst
  have r2' : zv_ev (dp + 4) 165 [.ref 116, .int 0, .int (zf_p9 (za_pk T X i (za_set (za_hd T X A i))))] zS0 (g1, Dm.2) = zo_v (g2, Dm.2) := r2
  rw [r2'] at hst
  simp only [Option.bind_some] at hst
  have cex : g2 119 3 = nI (zX_ex X) := (congrFun ((f2 119 (by decide)).trans (f1 119 (by decide) (by decide))) 3).trans hR.2.2.2.1
  rw [cex, zi_has (dp := dp + 3) (g2, Dm.2) (by omega) (by omega)] at hst
  simp only [Option.bind_some] at hst
  have O2 : zM_O g2 (za_hd T X A i) := fun e he => by rw [f2 129 (by decide), f2 130 (by decide)]; exact o1 e he
  -- the end of it, with a second that is known
  have fin : ∀ pp, pp ≤ 4 → (pp < 4 → za_hd T X A i pp ≠ 0) → za_de T X A i 1 = (if pp = 4 then 0 else za_hd T X A i pp) → (∀ g3, zv_ev (dp + 4) 165 [.ref 116, .int 1, .int (zf_p9 pp)] zS0 (g2, Dm.2) = zo_v (g3, Dm.2) → zv_m zt_X9_take (zv_ev (dp + 4)) false 0 [some (.ref 116), some (.ref 119), some (.int (nI i)), none, none, none] [] zS0 (Dm.1, Dm.2) = zv_rv zS0 (g3, Dm.2)) → ∃ g', (∀ x, x ≠ 129 → x ≠ 130 → x ≠ 131 → g' x = Dm.1 x) ∧ zM_N g' (za_de T X A i) ∧ zv_ev (dp + 5) 166 [.ref 116, .ref 119, .int (nI i)] zS0 Dm = zo_v (g', Dm.2) := by
    intro pp hpp hnz hde hrun
    obtain ⟨g3, f3, n3, o3, r3⟩ := ev_putTaken (dp := dp + 3) (Dm := (g2, Dm.2)) (off := za_hd T X A i) (k := 1) (pp := pp) (by decide) hpp O2 (fun h4 => ⟨hnz h4, za_hd_e hT hW hi (hnz h4)⟩)
    dsimp only at f3 n3 r3
    refine ⟨g3, fun x h1 h2 h3 => (f3 x h3).trans ((f2 x h3).trans (f1 x h1 h2)), fun q hq => ?_, zs_X9_take_p119 (hrun g3 r3)⟩
    have d0 : za_de T X A i 0 = if za_s1 T X A i = 4 then 0 else za_hd T X A i (za_s1 T X A i) := by
      unfold za_de
      by_cases h4 : za_s1 T X A i < 4
      · rw [if_pos h4, if_pos rfl, if_neg (by omega)]
      · rw [if_neg h4, if_pos (by omega)]
    by_cases hq3 : q < 3
    · rw [n3 q (by omega), show q = 3 * 0 + q by omega, o2 q hq3, show 3 * 0 + q = q by omega]
      unfold zm_t
      rw [show q / 3 = 0 by omega, d0]
    · rw [show q = 3 * 1 + (q - 3) by omega, o3 (q - 3) (by omega), show 3 * 1 + (q - 3) = q by omega]
      unfold zm_t
      rw [show q / 3 = 1 by omega, hde, show (q - 3) % 3 = q % 3 by omega]
  by_cases hx : (zX_ex X).testBit i = true
  · rw [if_pos hx, if_neg (by decide)] at hst
    by_cases h4 : za_s1 T X A i < 4
    · have e9 : zf_p9 (za_pk T X i (za_set (za_hd T X A i))) = nI (za_s1 T X A i) := if_neg (by have h4' : za_pk T X i (za_set (za_hd T X A i)) < 4 := h4; omega)
      rw [e9, if_neg (zi_ne9 (by omega)), zi_rm s16 h4] at hst
      obtain ⟨R2, K2, G2⟩ := good g2 f2
      have b2 := ev_best_119 (dp := dp) (Dm := (g2, Dm.2)) hT hX R2 K2 hi (za_rm_lt (p := za_s1 T X A i) s16) (G2 _ (fun e he hb => by rw [za_rm_tb s16 h4 he, Bool.and_eq_true] at hb; exact hbits e he hb.1))
      rw [b2] at hst
      simp only [Option.bind_some] at hst
      have hle2 : za_s2 T X A i ≤ 4 := za_pk_le _ _ _ _
      refine fin (za_s2 T X A i) hle2 (fun h => ?_) ?_ (fun g3 r3 => ?_)
      · have hb : (za_rm (za_set (za_hd T X A i)) (za_s1 T X A i)).testBit (za_s2 T X A i) = true := za_pk_in h
        rw [za_rm_tb s16 h4 h, Bool.and_eq_true] at hb
        exact hbits _ h hb.1
      · unfold za_de
        rw [if_pos h4, if_neg (by decide)]
        by_cases h42 : za_s2 T X A i < 4
        · rw [if_pos ⟨rfl, hx, h42⟩, if_neg (by omega)]
        · rw [if_neg (fun z => h42 z.2.2), if_pos (by omega)]
      · refine hst.trans ?_
        have r3' : zv_ev (dp + 4) 165 [.ref 116, .int 1, .int (zf_p9 (za_pk T X i (za_rm (za_set (za_hd T X A i)) (za_s1 T X A i))))] zS0 (g2, Dm.2) = zo_v (g3, Dm.2) := r3
        rw [r3']
        rfl
    · have e4 : za_pk T X i (za_set (za_hd T X A i)) = 4 := by
        have h4' : ¬ za_pk T X i (za_set (za_hd T X A i)) < 4 := h4
        have := za_pk_le T X i (za_set (za_hd T X A i))
        omega
      have e9 : zf_p9 (za_pk T X i (za_set (za_hd T X A i))) = -9 := if_pos e4
      rw [e9, if_pos rfl] at hst
      refine fin 4 (Nat.le_refl _) (fun h => absurd h (by decide)) ?_ (fun g3 r3 => ?_)
      · unfold za_de
        rw [if_neg h4, if_pos rfl]
      · refine hst.trans ?_
        have r3' : zv_ev (dp + 4) 165 [.ref 116, .int 1, .int (-9)] zS0 (g2, Dm.2) = zo_v (g3, Dm.2) := r3
        rw [r3']
        rfl
  · rw [if_neg hx, if_pos rfl] at hst
    refine fin 4 (Nat.le_refl _) (fun h => absurd h (by decide)) ?_ (fun g3 r3 => ?_)
    · unfold za_de
      by_cases h4 : za_s1 T X A i < 4
      · rw [if_pos h4, if_neg (by decide), if_neg (fun z => hx z.2.1), if_pos rfl]
      · rw [if_neg h4, if_pos rfl]
    · refine hst.trans ?_
      have r3' : zv_ev (dp + 4) 165 [.ref 116, .int 1, .int (-9)] zS0 (g2, Dm.2) = zo_v (g3, Dm.2) := r3
      rw [r3']
      rfl
theorem ev_mtake_120 {dp : Nat} {Dm : zv_D} {T : zT} {X : zX} {A : zA} {i : Nat} (hT : zT_ok T) (hX : zX_ok T X) (hR : zM_R (Dm.1 120) T X A) (hK : zM_K Dm.1 T X) (hW : za_W T A) (hi : i < zT_n T) :
    ∃ g', (∀ x, x ≠ 129 → x ≠ 130 → x ≠ 131 → g' x = Dm.1 x) ∧ zM_N g' (za_de T X A i) ∧ zv_ev (dp + 5) 166 [.ref 116, .ref 120, .int (nI i)] zS0 Dm = zo_v (g', Dm.2) := by
  have h5 := hT.2.1
  have hex : zX_ex X < 32 := by
    have h1 := hX.2.2.2.2.2.1
    have : 2 ^ zT_n T ≤ 2 ^ 5 := Nat.pow_le_pow_right (by decide) h5
    omega
  obtain ⟨g1, f1, o1, r1⟩ := ev_gather_120 (dp := dp + 1) (Dm := (Dm.1, Dm.2)) hT hX hR hK hW hi
  dsimp only at f1 r1
  have s16 := za_set_lt (za_hd T X A i)
  have hfl : ∀ e, zc_f (za_hd T X A i e) < 8 := fun e => zc_f_lt _
  have good : ∀ (g' : Nat → Nat → Int32), (∀ x, x ≠ 131 → g' x = g1 x) → zM_R (g' 120) T X A ∧ zM_K g' T X ∧ ∀ s : Nat, (∀ e, e < 4 → s.testBit e = true → za_hd T X A i e ≠ 0) → ∀ e, e < 4 → s.testBit e = true → e < zT_m T ∧ za_di (zX_co X) i (zT_pl T e) < 1000 ∧ (g' 129 e = nI i ↔ zT_pl T e = i) := by
    intro g' hg
    refine ⟨by rw [hg 120 (by decide), f1 120 (by decide) (by decide)]; exact hR, fun a b ha hb => (congrFun ((hg 128 (by decide)).trans (f1 128 (by decide) (by decide))) _).trans (hK a b ha hb), fun s hs e he hb => ?_⟩
    have hne := hs e he hb
    obtain ⟨q1, q2, f, mk, q3, q4, q5, q6⟩ := za_Fn hT hW hi (X := X) (zT_n T) (Nat.le_refl _) e hne
    have q3' : za_hd T X A i e = zc_k e f mk := q3
    refine ⟨q1, za_of_near _ e hne, ?_⟩
    rw [hg 129 (by decide), (o1 e he).1, zm_v1 hne, q3', zc_fk (by omega) q5, nI_eq (by omega) (by omega)]
    rcases q6 with q6 | q6
    · exact ⟨fun _ => q6.2.2, fun _ => q6.1⟩
    · exact ⟨fun z => absurd z q6.2.1, fun z => absurd z q6.2.2.2.1⟩
  have hbits : ∀ e, e < 4 → (za_set (za_hd T X A i)).testBit e = true → za_hd T X A i e ≠ 0 := fun e he hb => by rw [za_set_tb he] at hb; exact of_decide_eq_true hb
  obtain ⟨R1, K1, G1⟩ := good g1 (fun _ _ => rfl)
  have b1 := ev_best_120 (dp := dp) (Dm := (g1, Dm.2)) hT hX R1 K1 hi s16 (G1 _ hbits)
  have hle1 : za_s1 T X A i ≤ 4 := za_pk_le _ _ _ _
  obtain ⟨g2, f2, n2, o2, r2⟩ := ev_putTaken (dp := dp + 3) (Dm := (g1, Dm.2)) (off := za_hd T X A i) (k := 0) (pp := za_s1 T X A i) (by decide) hle1 o1 (fun h4 => ⟨za_s1_ne h4, za_hd_e hT hW hi (za_s1_ne h4)⟩)
  dsimp only at f2 n2 r2
  have hst := zd_X9_take_p120 (zv_ev (dp + 4)) Dm.1 Dm.2 (nI i)
  rw [r1] at hst
  simp only [Option.bind_some] at hst
  rw [ev_gathered (dp := dp + 3) (Dm := (g1, Dm.2)) (off := za_hd T X A i) (fun e he => by dsimp only; rw [(o1 e he).1]; exact zm_v9 (by have := hfl e; omega))] at hst
  simp only [Option.bind_some] at hst
  rw [b1] at hst
  simp only [Option.bind_some] at hst
  have r2' : zv_ev (dp + 4) 165 [.ref 116, .int 0, .int (zf_p9 (za_pk T X i (za_set (za_hd T X A i))))] zS0 (g1, Dm.2) = zo_v (g2, Dm.2) := r2
  rw [r2'] at hst
  simp only [Option.bind_some] at hst
  have cex : g2 120 3 = nI (zX_ex X) := (congrFun ((f2 120 (by decide)).trans (f1 120 (by decide) (by decide))) 3).trans hR.2.2.2.1
  rw [cex, zi_has (dp := dp + 3) (g2, Dm.2) (by omega) (by omega)] at hst
  simp only [Option.bind_some] at hst
  have O2 : zM_O g2 (za_hd T X A i) := fun e he => by rw [f2 129 (by decide), f2 130 (by decide)]; exact o1 e he
  -- the end of it, with a second that is known
  have fin : ∀ pp, pp ≤ 4 → (pp < 4 → za_hd T X A i pp ≠ 0) → za_de T X A i 1 = (if pp = 4 then 0 else za_hd T X A i pp) → (∀ g3, zv_ev (dp + 4) 165 [.ref 116, .int 1, .int (zf_p9 pp)] zS0 (g2, Dm.2) = zo_v (g3, Dm.2) → zv_m zt_X9_take (zv_ev (dp + 4)) false 0 [some (.ref 116), some (.ref 120), some (.int (nI i)), none, none, none] [] zS0 (Dm.1, Dm.2) = zv_rv zS0 (g3, Dm.2)) → ∃ g', (∀ x, x ≠ 129 → x ≠ 130 → x ≠ 131 → g' x = Dm.1 x) ∧ zM_N g' (za_de T X A i) ∧ zv_ev (dp + 5) 166 [.ref 116, .ref 120, .int (nI i)] zS0 Dm = zo_v (g', Dm.2) := by
    intro pp hpp hnz hde hrun
    obtain ⟨g3, f3, n3, o3, r3⟩ := ev_putTaken (dp := dp + 3) (Dm := (g2, Dm.2)) (off := za_hd T X A i) (k := 1) (pp := pp) (by decide) hpp O2 (fun h4 => ⟨hnz h4, za_hd_e hT hW hi (hnz h4)⟩)
    dsimp only at f3 n3 r3
    refine ⟨g3, fun x h1 h2 h3 => (f3 x h3).trans ((f2 x h3).trans (f1 x h1 h2)), fun q hq => ?_, zs_X9_take_p120 (hrun g3 r3)⟩
    have d0 : za_de T X A i 0 = if za_s1 T X A i = 4 then 0 else za_hd T X A i (za_s1 T X A i) := by
      unfold za_de
      by_cases h4 : za_s1 T X A i < 4
      · rw [if_pos h4, if_pos rfl, if_neg (by omega)]
      · rw [if_neg h4, if_pos (by omega)]
    by_cases hq3 : q < 3
    · rw [n3 q (by omega), show q = 3 * 0 + q by omega, o2 q hq3, show 3 * 0 + q = q by omega]
      unfold zm_t
      rw [show q / 3 = 0 by omega, d0]
    · rw [show q = 3 * 1 + (q - 3) by omega, o3 (q - 3) (by omega), show 3 * 1 + (q - 3) = q by omega]
      unfold zm_t
      rw [show q / 3 = 1 by omega, hde, show (q - 3) % 3 = q % 3 by omega]
  by_cases hx : (zX_ex X).testBit i = true
  · rw [if_pos hx, if_neg (by decide)] at hst
    by_cases h4 : za_s1 T X A i < 4
    · have e9 : zf_p9 (za_pk T X i (za_set (za_hd T X A i))) = nI (za_s1 T X A i) := if_neg (by have h4' : za_pk T X i (za_set (za_hd T X A i)) < 4 := h4; omega)
      rw [e9, if_neg (zi_ne9 (by omega)), zi_rm s16 h4] at hst
      obtain ⟨R2, K2, G2⟩ := good g2 f2
      have b2 := ev_best_120 (dp := dp) (Dm := (g2, Dm.2)) hT hX R2 K2 hi (za_rm_lt (p := za_s1 T X A i) s16) (G2 _ (fun e he hb => by rw [za_rm_tb s16 h4 he, Bool.and_eq_true] at hb; exact hbits e he hb.1))
      rw [b2] at hst
      simp only [Option.bind_some] at hst
      have hle2 : za_s2 T X A i ≤ 4 := za_pk_le _ _ _ _
      refine fin (za_s2 T X A i) hle2 (fun h => ?_) ?_ (fun g3 r3 => ?_)
      · have hb : (za_rm (za_set (za_hd T X A i)) (za_s1 T X A i)).testBit (za_s2 T X A i) = true := za_pk_in h
        rw [za_rm_tb s16 h4 h, Bool.and_eq_true] at hb
        exact hbits _ h hb.1
      · unfold za_de
        rw [if_pos h4, if_neg (by decide)]
        by_cases h42 : za_s2 T X A i < 4
        · rw [if_pos ⟨rfl, hx, h42⟩, if_neg (by omega)]
        · rw [if_neg (fun z => h42 z.2.2), if_pos (by omega)]
      · refine hst.trans ?_
        have r3' : zv_ev (dp + 4) 165 [.ref 116, .int 1, .int (zf_p9 (za_pk T X i (za_rm (za_set (za_hd T X A i)) (za_s1 T X A i))))] zS0 (g2, Dm.2) = zo_v (g3, Dm.2) := r3
        rw [r3']
        rfl
    · have e4 : za_pk T X i (za_set (za_hd T X A i)) = 4 := by
        have h4' : ¬ za_pk T X i (za_set (za_hd T X A i)) < 4 := h4
        have := za_pk_le T X i (za_set (za_hd T X A i))
        omega
      have e9 : zf_p9 (za_pk T X i (za_set (za_hd T X A i))) = -9 := if_pos e4
      rw [e9, if_pos rfl] at hst
      refine fin 4 (Nat.le_refl _) (fun h => absurd h (by decide)) ?_ (fun g3 r3 => ?_)
      · unfold za_de
        rw [if_neg h4, if_pos rfl]
      · refine hst.trans ?_
        have r3' : zv_ev (dp + 4) 165 [.ref 116, .int 1, .int (-9)] zS0 (g2, Dm.2) = zo_v (g3, Dm.2) := r3
        rw [r3']
        rfl
  · rw [if_neg hx, if_pos rfl] at hst
    refine fin 4 (Nat.le_refl _) (fun h => absurd h (by decide)) ?_ (fun g3 r3 => ?_)
    · unfold za_de
      by_cases h4 : za_s1 T X A i < 4
      · rw [if_pos h4, if_neg (by decide), if_neg (fun z => hx z.2.1), if_pos rfl]
      · rw [if_neg h4, if_pos rfl]
    · refine hst.trans ?_
      have r3' : zv_ev (dp + 4) 165 [.ref 116, .int 1, .int (-9)] zS0 (g2, Dm.2) = zo_v (g3, Dm.2) := r3
      rw [r3']
      rfl
theorem ev_mtake_121 {dp : Nat} {Dm : zv_D} {T : zT} {X : zX} {A : zA} {i : Nat} (hT : zT_ok T) (hX : zX_ok T X) (hR : zM_R (Dm.1 121) T X A) (hK : zM_K Dm.1 T X) (hW : za_W T A) (hi : i < zT_n T) :
    ∃ g', (∀ x, x ≠ 129 → x ≠ 130 → x ≠ 131 → g' x = Dm.1 x) ∧ zM_N g' (za_de T X A i) ∧ zv_ev (dp + 5) 166 [.ref 116, .ref 121, .int (nI i)] zS0 Dm = zo_v (g', Dm.2) := by
  have h5 := hT.2.1
  have hex : zX_ex X < 32 := by
    have h1 := hX.2.2.2.2.2.1
    have : 2 ^ zT_n T ≤ 2 ^ 5 := Nat.pow_le_pow_right (by decide) h5
    omega
  obtain ⟨g1, f1, o1, r1⟩ := ev_gather_121 (dp := dp + 1) (Dm := (Dm.1, Dm.2)) hT hX hR hK hW hi
  dsimp only at f1 r1
  have s16 := za_set_lt (za_hd T X A i)
  have hfl : ∀ e, zc_f (za_hd T X A i e) < 8 := fun e => zc_f_lt _
  have good : ∀ (g' : Nat → Nat → Int32), (∀ x, x ≠ 131 → g' x = g1 x) → zM_R (g' 121) T X A ∧ zM_K g' T X ∧ ∀ s : Nat, (∀ e, e < 4 → s.testBit e = true → za_hd T X A i e ≠ 0) → ∀ e, e < 4 → s.testBit e = true → e < zT_m T ∧ za_di (zX_co X) i (zT_pl T e) < 1000 ∧ (g' 129 e = nI i ↔ zT_pl T e = i) := by
    intro g' hg
    refine ⟨by rw [hg 121 (by decide), f1 121 (by decide) (by decide)]; exact hR, fun a b ha hb => (congrFun ((hg 128 (by decide)).trans (f1 128 (by decide) (by decide))) _).trans (hK a b ha hb), fun s hs e he hb => ?_⟩
    have hne := hs e he hb
    obtain ⟨q1, q2, f, mk, q3, q4, q5, q6⟩ := za_Fn hT hW hi (X := X) (zT_n T) (Nat.le_refl _) e hne
    have q3' : za_hd T X A i e = zc_k e f mk := q3
    refine ⟨q1, za_of_near _ e hne, ?_⟩
    rw [hg 129 (by decide), (o1 e he).1, zm_v1 hne, q3', zc_fk (by omega) q5, nI_eq (by omega) (by omega)]
    rcases q6 with q6 | q6
    · exact ⟨fun _ => q6.2.2, fun _ => q6.1⟩
    · exact ⟨fun z => absurd z q6.2.1, fun z => absurd z q6.2.2.2.1⟩
  have hbits : ∀ e, e < 4 → (za_set (za_hd T X A i)).testBit e = true → za_hd T X A i e ≠ 0 := fun e he hb => by rw [za_set_tb he] at hb; exact of_decide_eq_true hb
  obtain ⟨R1, K1, G1⟩ := good g1 (fun _ _ => rfl)
  have b1 := ev_best_121 (dp := dp) (Dm := (g1, Dm.2)) hT hX R1 K1 hi s16 (G1 _ hbits)
  have hle1 : za_s1 T X A i ≤ 4 := za_pk_le _ _ _ _
  obtain ⟨g2, f2, n2, o2, r2⟩ := ev_putTaken (dp := dp + 3) (Dm := (g1, Dm.2)) (off := za_hd T X A i) (k := 0) (pp := za_s1 T X A i) (by decide) hle1 o1 (fun h4 => ⟨za_s1_ne h4, za_hd_e hT hW hi (za_s1_ne h4)⟩)
  dsimp only at f2 n2 r2
  have hst := zd_X9_take_p121 (zv_ev (dp + 4)) Dm.1 Dm.2 (nI i)
  rw [r1] at hst
  simp only [Option.bind_some] at hst
  rw [ev_gathered (dp := dp + 3) (Dm := (g1, Dm.2)) (off := za_hd T X A i) (fun e he => by dsimp only; rw [(o1 e he).1]; exact zm_v9 (by have := hfl e; omega))] at hst
  simp only [Option.bind_some] at hst
  rw [b1] at hst
  simp only [Option.bind_some] at hst
  have r2' : zv_ev (dp + 4) 165 [.ref 116, .int 0, .int (zf_p9 (za_pk T X i (za_set (za_hd T X A i))))] zS0 (g1, Dm.2) = zo_v (g2, Dm.2) := r2
  rw [r2'] at hst
  simp only [Option.bind_some] at hst
  have cex : g2 121 3 = nI (zX_ex X) := (congrFun ((f2 121 (by decide)).trans (f1 121 (by decide) (by decide))) 3).trans hR.2.2.2.1
  rw [cex, zi_has (dp := dp + 3) (g2, Dm.2) (by omega) (by omega)] at hst
  simp only [Option.bind_some] at hst
  have O2 : zM_O g2 (za_hd T X A i) := fun e he => by rw [f2 129 (by decide), f2 130 (by decide)]; exact o1 e he
  -- the end of it, with a second that is known
  have fin : ∀ pp, pp ≤ 4 → (pp < 4 → za_hd T X A i pp ≠ 0) → za_de T X A i 1 = (if pp = 4 then 0 else za_hd T X A i pp) → (∀ g3, zv_ev (dp + 4) 165 [.ref 116, .int 1, .int (zf_p9 pp)] zS0 (g2, Dm.2) = zo_v (g3, Dm.2) → zv_m zt_X9_take (zv_ev (dp + 4)) false 0 [some (.ref 116), some (.ref 121), some (.int (nI i)), none, none, none] [] zS0 (Dm.1, Dm.2) = zv_rv zS0 (g3, Dm.2)) → ∃ g', (∀ x, x ≠ 129 → x ≠ 130 → x ≠ 131 → g' x = Dm.1 x) ∧ zM_N g' (za_de T X A i) ∧ zv_ev (dp + 5) 166 [.ref 116, .ref 121, .int (nI i)] zS0 Dm = zo_v (g', Dm.2) := by
    intro pp hpp hnz hde hrun
    obtain ⟨g3, f3, n3, o3, r3⟩ := ev_putTaken (dp := dp + 3) (Dm := (g2, Dm.2)) (off := za_hd T X A i) (k := 1) (pp := pp) (by decide) hpp O2 (fun h4 => ⟨hnz h4, za_hd_e hT hW hi (hnz h4)⟩)
    dsimp only at f3 n3 r3
    refine ⟨g3, fun x h1 h2 h3 => (f3 x h3).trans ((f2 x h3).trans (f1 x h1 h2)), fun q hq => ?_, zs_X9_take_p121 (hrun g3 r3)⟩
    have d0 : za_de T X A i 0 = if za_s1 T X A i = 4 then 0 else za_hd T X A i (za_s1 T X A i) := by
      unfold za_de
      by_cases h4 : za_s1 T X A i < 4
      · rw [if_pos h4, if_pos rfl, if_neg (by omega)]
      · rw [if_neg h4, if_pos (by omega)]
    by_cases hq3 : q < 3
    · rw [n3 q (by omega), show q = 3 * 0 + q by omega, o2 q hq3, show 3 * 0 + q = q by omega]
      unfold zm_t
      rw [show q / 3 = 0 by omega, d0]
    · rw [show q = 3 * 1 + (q - 3) by omega, o3 (q - 3) (by omega), show 3 * 1 + (q - 3) = q by omega]
      unfold zm_t
      rw [show q / 3 = 1 by omega, hde, show (q - 3) % 3 = q % 3 by omega]
  by_cases hx : (zX_ex X).testBit i = true
  · rw [if_pos hx, if_neg (by decide)] at hst
    by_cases h4 : za_s1 T X A i < 4
    · have e9 : zf_p9 (za_pk T X i (za_set (za_hd T X A i))) = nI (za_s1 T X A i) := if_neg (by have h4' : za_pk T X i (za_set (za_hd T X A i)) < 4 := h4; omega)
      rw [e9, if_neg (zi_ne9 (by omega)), zi_rm s16 h4] at hst
      obtain ⟨R2, K2, G2⟩ := good g2 f2
      have b2 := ev_best_121 (dp := dp) (Dm := (g2, Dm.2)) hT hX R2 K2 hi (za_rm_lt (p := za_s1 T X A i) s16) (G2 _ (fun e he hb => by rw [za_rm_tb s16 h4 he, Bool.and_eq_true] at hb; exact hbits e he hb.1))
      rw [b2] at hst
      simp only [Option.bind_some] at hst
      have hle2 : za_s2 T X A i ≤ 4 := za_pk_le _ _ _ _
      refine fin (za_s2 T X A i) hle2 (fun h => ?_) ?_ (fun g3 r3 => ?_)
      · have hb : (za_rm (za_set (za_hd T X A i)) (za_s1 T X A i)).testBit (za_s2 T X A i) = true := za_pk_in h
        rw [za_rm_tb s16 h4 h, Bool.and_eq_true] at hb
        exact hbits _ h hb.1
      · unfold za_de
        rw [if_pos h4, if_neg (by decide)]
        by_cases h42 : za_s2 T X A i < 4
        · rw [if_pos ⟨rfl, hx, h42⟩, if_neg (by omega)]
        · rw [if_neg (fun z => h42 z.2.2), if_pos (by omega)]
      · refine hst.trans ?_
        have r3' : zv_ev (dp + 4) 165 [.ref 116, .int 1, .int (zf_p9 (za_pk T X i (za_rm (za_set (za_hd T X A i)) (za_s1 T X A i))))] zS0 (g2, Dm.2) = zo_v (g3, Dm.2) := r3
        rw [r3']
        rfl
    · have e4 : za_pk T X i (za_set (za_hd T X A i)) = 4 := by
        have h4' : ¬ za_pk T X i (za_set (za_hd T X A i)) < 4 := h4
        have := za_pk_le T X i (za_set (za_hd T X A i))
        omega
      have e9 : zf_p9 (za_pk T X i (za_set (za_hd T X A i))) = -9 := if_pos e4
      rw [e9, if_pos rfl] at hst
      refine fin 4 (Nat.le_refl _) (fun h => absurd h (by decide)) ?_ (fun g3 r3 => ?_)
      · unfold za_de
        rw [if_neg h4, if_pos rfl]
      · refine hst.trans ?_
        have r3' : zv_ev (dp + 4) 165 [.ref 116, .int 1, .int (-9)] zS0 (g2, Dm.2) = zo_v (g3, Dm.2) := r3
        rw [r3']
        rfl
  · rw [if_neg hx, if_pos rfl] at hst
    refine fin 4 (Nat.le_refl _) (fun h => absurd h (by decide)) ?_ (fun g3 r3 => ?_)
    · unfold za_de
      by_cases h4 : za_s1 T X A i < 4
      · rw [if_pos h4, if_neg (by decide), if_neg (fun z => hx z.2.1), if_pos rfl]
      · rw [if_neg h4, if_pos rfl]
    · refine hst.trans ?_
      have r3' : zv_ev (dp + 4) 165 [.ref 116, .int 1, .int (-9)] zS0 (g2, Dm.2) = zo_v (g3, Dm.2) := r3
      rw [r3']
      rfl
