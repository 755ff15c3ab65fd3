theorem zp_o_lt {n c : Nat} (h1 : 1 ≤ n) (h5 : n ≤ 5) : ∀ k, zp_o n c k < 32 := by
  intro k
  induction k with
  | zero => exact (by decide : (0 : Nat) < 32)
  | succ k ih =>
    have hd := zp_d_lt (c := c) (k := k) h1
    exact Nat.or_lt_two_pow (n := 5) ih (zp_lt (by omega))
theorem zp_pw {n : Nat} (h1 : 1 ≤ n) (h5 : n ≤ 5) {k : Nat} (hk : k ≤ 5) : 0 < n ^ k ∧ n ^ k ≤ 3125 := by
  refine ⟨Nat.pow_pos (by omega), ?_⟩
  have a : n ^ k ≤ 5 ^ k := Nat.pow_le_pow_left h5 k
  have b : 5 ^ k ≤ 5 ^ 5 := Nat.pow_le_pow_right (by decide) hk
  omega
theorem zx_dig {n c k : Nat} (h1 : 1 ≤ n) (h5 : n ≤ 5) (hk : k ≤ 5) (hc : c < 10000) : (nI c / nI (n ^ k)) - (nI c / nI (n ^ k)) / nI n * nI n = nI (zp_d n c k) := by
  have hp := zp_pw h1 h5 hk
  have hd : c / n ^ k ≤ c := Nat.div_le_self _ _
  rw [pk_div (by omega) hp.1 (by omega), pk_rem (by omega) (by omega) (by omega)]
  rfl
theorem ev_isOrder {dp : Nat} {g : Nat → Nat → Int32} {h : Nat → Nat → Int64} {n c : Nat} (c0 : g 119 0 = nI n) (h1 : 1 ≤ n) (h5 : n ≤ 5) (hc : c < 10000) : zv_ev (dp + 2) 193 [.ref 116, .int (nI c)] zS0 (g, h) = zo_i (if (zp_o n c n == 2 ^ n - 1) = true then 1 else 0) (g, h) := by
  obtain ⟨-, -, r1⟩ := zl_up (σ := Unit) (fun k _ => zv_m zt_X9_isOrder (zv_ev (dp + 1)) true 4 [some (.ref 116), some (.int (nI c)), some (.int (nI (zp_o n c k))), some (.int (nI k))] [] zS0 (g, h)) n (fun _ _ => True) (by
    intro k _ hk _
    refine ⟨(), trivial, ?_⟩
    have hp := zp_pw h1 h5 (show k ≤ 5 by omega)
    have hd := zp_d_lt (c := c) (k := k) h1
    have hol := zp_o_lt (c := c) h1 h5 k
    have e1 := zd_X9_isOrder_4 (zv_ev (dp + 1)) g h (nI c) (nI (zp_o n c k)) (nI k)
    rw [c0, if_neg (nI_ge hk (by omega)), ev_power (dp := dp) (g, h) (by omega)] at e1
    simp only [Option.bind_some] at e1
    rw [c0, if_neg (nI_ne0 hp.1 (by omega)), if_neg (nI_ne0 (by omega) (by omega)), zx_dig h1 h5 (by omega) hc, zi_sh (by omega), zi_or (by omega) (by have := zp_31 (show zp_d n c k ≤ 5 by omega); omega), nI_1] at e1
    exact e1) () trivial
  have hol := zp_o_lt (c := c) h1 h5 n
  have hp1 := Nat.two_pow_pos n
  have hp2 := zp_31 h5
  refine zs_X9_isOrder ((zd_X9_isOrder _ g h _).trans (r1.trans ?_))
  rw [zd_X9_isOrder_4, c0, if_pos (nI_le (Nat.le_refl _) (by omega)), zi_sh' h5, show nI (2 ^ n) - 1 = nI (2 ^ n - 1) from pk_sub (a := 2 ^ n) (b := 1) hp1]
  by_cases q : zp_o n c n = 2 ^ n - 1
  · rw [if_pos (by rw [q]), if_pos (by rw [q]; exact beq_self_eq_true _)]
  · rw [if_neg (fun z => q ((nI_eq (by omega) (by omega)).mp z)), if_neg (fun z => q (beq_iff_eq.mp z))]
/-- what a pass of the reference changes -/
def zFw (g g' : Nat → Nat → Int32) : Prop := ∀ x, x ≠ 121 → x ≠ 129 → x ≠ 130 → x ≠ 131 → g' x = g x
theorem zFw_trans {g1 g2 g3 : Nat → Nat → Int32} (h1 : zFw g1 g2) (h2 : zFw g2 g3) : zFw g1 g3 := fun x a b c d => (h2 x a b c d).trans (h1 x a b c d)
theorem ev_restsBy {dp : Nat} {g : Nat → Nat → Int32} {h : Nat → Nat → Int64} {T : zT} {X : zX} {A : zA} {c : Nat} (hT : zT_ok T) (hX : zX_ok T X) (hR : zM_R (g 119) T X A) (hK : zM_K g T X) (hc : c < 10000) : ∃ g', zFw g g' ∧ (∀ B, zp_t T X (zp_d (zT_n T) c) 30 zA_0 = some B → zM_R (g' 121) T X B) ∧ zv_ev (dp + 7) 192 [.ref 116, .int (nI c)] zS0 (g, h) = zo_i (if (zp_t T X (zp_d (zT_n T) c) 30 zA_0).isSome = true then 1 else 0) (g', h) := by
  have h5 := hT.2.1
  have hn1 := hT.1
  have h4 := hT.2.2.1
  obtain ⟨g1, f1, n1, r1⟩ := ev_lay_121_119 (dp := dp + 5) (g, h)
  dsimp only at f1 n1 r1
  obtain ⟨g2, f2, o2, n2, r2⟩ := ev_clear_121 (dp := dp + 5) (g1, h)
  dsimp only at f2 o2 n2 r2
  have R2 : zM_R (g2 121) T X zA_0 := zM_R_clear hR (fun k hk => (o2 k hk).trans (n1 k (by omega))) n2 h4
  have F2 : zFw g g2 := fun x a _ _ _ => (f2 x a).trans (f1 x a)
  have key : ∀ (f t : Nat) (B : zA) (s : Nat → Nat → Int32) (u4 u5 : Option Value), t + f = 30 → za_W T B → zFw g s → zM_R (s 121) T X B → ∃ s', zFw g s' ∧ (∀ B', zp_t T X (zp_d (zT_n T) c) f B = some B' → zM_R (s' 121) T X B') ∧ zv_m zt_X9_restsBy (zv_ev (dp + 6)) true 27 [some (.ref 116), some (.int (nI c)), some (.int (nI (zT_n T))), some (.int (nI t)), u4, u5] [] zS0 (s, h) = zv_ri (if (zp_t T X (zp_d (zT_n T) c) f B).isSome = true then 1 else 0) zS0 (s', h) := by
    intro f
    induction f with
    | zero =>
      intro t B s u4 u5 ht hW hF hRs
      refine ⟨s, hF, fun B' hB' => (by cases hB'), ?_⟩
      rw [zd_X9_restsBy_27, if_pos (zi_le 30 30 rfl (by omega) (by omega))]
      rfl
    | succ f ih =>
      intro t B s u4 u5 ht hW hF hRs
      have e1 := zd_X9_restsBy_27 (zv_ev (dp + 6)) s h (nI c) (nI (zT_n T)) (nI t) u4 u5
      rw [if_neg (zi_ge 30 30 rfl (by omega) (by decide))] at e1
      obtain ⟨s1, ⟨F1, R1⟩, q1⟩ := zl_up (fun k (w : Nat → Nat → Int32) => zv_m zt_X9_restsBy (zv_ev (dp + 6)) true 39 [some (.ref 116), some (.int (nI c)), some (.int (nI (zT_n T))), some (.int (nI t)), some (.int (if (zp_a T X (zp_d (zT_n T) c) B k).2 = true then 1 else 0)), some (.int (nI k))] [] zS0 (w, h)) (zT_n T) (fun k w => zFw g w ∧ zM_R (w 121) T X (zp_a T X (zp_d (zT_n T) c) B k).1) (by
        rintro k w hk ⟨Fw, Rw⟩
        have hp := zp_pw hn1 h5 (show k ≤ 5 by omega)
        have hWk := zp_a_W (X := X) (o := zp_d (zT_n T) c) hT hW (fun k _ => zp_d_lt hn1) k (by omega)
        have Kw : zM_K w T X := fun i j hi hj => (congrFun (Fw 128 (by decide) (by decide) (by decide) (by decide)) _).trans (hK i j hi hj)
        have e2 := zd_X9_restsBy_39 (zv_ev (dp + 6)) w h (nI c) (nI (zT_n T)) (nI t) (if (zp_a T X (zp_d (zT_n T) c) B k).2 = true then 1 else 0) (nI k)
        obtain ⟨w2, f3, R3, r3⟩ := ev_stepOn_121 (dp := dp) (Dm := (w, h)) (T := T) (X := X) (A := (zp_a T X (zp_d (zT_n T) c) B k).1) hT hX Rw Kw hWk (zp_d_lt (c := c) (k := k) hn1)
        dsimp only at f3 r3
        rw [if_neg (nI_ge hk (by omega)), ev_power (dp := dp + 5) (w, h) (by omega)] at e2
        simp only [Option.bind_some] at e2
        rw [if_neg (nI_ne0 hp.1 (by omega)), if_neg (nI_ne0 (by omega) (by omega)), zx_dig hn1 h5 (by omega) hc, r3, nI_1] at e2
        simp only [Option.bind_some] at e2
        refine ⟨w2, ⟨zFw_trans Fw f3, R3⟩, e2.trans ?_⟩
        have es : (zp_a T X (zp_d (zT_n T) c) B (k + 1)).2 = ((zp_a T X (zp_d (zT_n T) c) B k).2 || za_ch T X (zp_a T X (zp_d (zT_n T) c) B k).1 (zp_d (zT_n T) c k)) := rfl
        rw [es]
        cases (zp_a T X (zp_d (zT_n T) c) B k).2 <;> cases za_ch T X (zp_a T X (zp_d (zT_n T) c) B k).1 (zp_d (zT_n T) c k) <;> rfl) s ⟨hF, hRs⟩
      have e3 := zd_X9_restsBy_39 (zv_ev (dp + 6)) s1 h (nI c) (nI (zT_n T)) (nI t) (if (zp_a T X (zp_d (zT_n T) c) B (zT_n T)).2 = true then 1 else 0) (nI (zT_n T))
      rw [if_pos (nI_le (Nat.le_refl _) (by omega)), nI_1] at e3
      have e4 := e1.trans (q1.trans e3)
      unfold zp_t
      cases hfl : (zp_a T X (zp_d (zT_n T) c) B (zT_n T)).2 with
      | false =>
        rw [hfl] at e4
        exact ⟨s1, F1, fun B' hB' => (by rw [if_neg (by decide)] at hB'; cases hB'; exact R1), e4⟩
      | true =>
        rw [hfl] at e4
        obtain ⟨s2, F3, R3, r3⟩ := ih (t + 1) (zp_a T X (zp_d (zT_n T) c) B (zT_n T)).1 s1 (some (.int 1)) (some (.int (nI (zT_n T)))) (by omega) (zp_a_W hT hW (fun k _ => zp_d_lt hn1) _ (Nat.le_refl _)) F1 R1
        exact ⟨s2, F3, fun B' hB' => R3 B' (by rw [if_pos rfl] at hB'; exact hB'), e4.trans r3⟩
  have hst := zd_X9_restsBy (zv_ev (dp + 6)) g h (nI c)
  rw [r1] at hst
  simp only [Option.bind_some] at hst
  rw [r2] at hst
  simp only [Option.bind_some] at hst
  rw [hR.1] at hst
  obtain ⟨g3, F3, R3, r3⟩ := key 30 0 zA_0 g2 none none (by decide) (zA_0_W T) F2 R2
  exact ⟨g3, F3, R3, zs_X9_restsBy (hst.trans r3)⟩
/-- the reference's rests -/
def zpM (g : Nat → Nat → Int32) (D : List Nat) : Prop := ∀ j, j < D.length → g 134 j = nI (D.getD j 0)
def zpm (D : List Nat) : Int32 := if D = [] then -9 else nI (zmi D)
theorem zr_mono (p : Nat → Bool) {a : Nat} : ∀ b, a ≤ b → ((List.range a).filter p).length ≤ ((List.range b).filter p).length := by
  intro b
  induction b with
  | zero => intro h; rw [show a = 0 by omega]; exact Nat.le_refl _
  | succ b ih =>
    intro h
    by_cases hb : a = b + 1
    · rw [hb]; exact Nat.le_refl _
    · rw [List.range_succ, List.filter_append, List.length_append]
      exact Nat.le_trans (ih (by omega)) (Nat.le_add_right _ _)
theorem zx_oldM {dp : Nat} {g : Nat → Nat → Int32} {h : Nat → Nat → Int64} {D : List Nat} {v : Nat} (hM : zpM g D) (hl : D.length < 120) (hD : ∀ w, w ∈ D → w < 100000) (hv : v < 100000) (x1 x2 x5 : Int32) : ∃ g' u7 u8, (∀ x, x ≠ 134 → g' x = g x) ∧ zpM g' (zad D (some v)) ∧ zv_m zt_X9_orders (zv_ev dp) false 95 [some (.ref 116), some (.int x1), some (.int x2), some (.int (nI D.length)), some (.int (zpm D)), some (.int x5), some (.int (nI v)), some (.int 0), some (.int 0)] [] zS0 (g, h) = zv_m zt_X9_orders (zv_ev dp) false 39 [some (.ref 116), some (.int x1), some (.int x2), some (.int (nI (zad D (some v)).length)), some (.int (zpm (zad D (some v)))), some (.int (x5 + 1)), some (.int (nI v)), u7, u8] [] zS0 (g', h) := by
  have hz := zmi_lt D
  have hgd : ∀ j, j < D.length → D.getD j 0 < 100000 := fun j hj => hD _ ((zgd_mem D _).mpr ⟨j, hj, rfl⟩)
  obtain ⟨b, hb, r1⟩ := zl_up (σ := Bool) (fun k b => zv_m zt_X9_orders (zv_ev dp) false 95 [some (.ref 116), some (.int x1), some (.int x2), some (.int (nI D.length)), some (.int (zpm D)), some (.int x5), some (.int (nI v)), some (.int (if b = true then 1 else 0)), some (.int (nI k))] [] zS0 (g, h)) D.length (fun k b => b = true ↔ ∃ j, j < k ∧ D.getD j 0 = v) (by
    intro k b hk hb
    have e1 := zd_X9_orders_95 (zv_ev dp) g h x1 x2 (nI D.length) (zpm D) x5 (nI v) (if b = true then 1 else 0) (nI k)
    have hk2 := hgd k hk
    rw [if_neg (nI_ge hk (by omega)), zi_in (n := 120) (by omega) (by decide), nI_clamp (by omega), hM k hk, nI_1, cond_true] at e1
    cases b with
    | true =>
      rw [if_neg (show ¬ (if true = true then (1 : Int32) else 0) = 0 by decide)] at e1
      obtain ⟨j, hj, e⟩ := hb.mp rfl
      exact ⟨true, ⟨fun _ => ⟨j, by omega, e⟩, fun _ => rfl⟩, e1⟩
    | false =>
      rw [if_pos (show (if false = true then (1 : Int32) else 0) = 0 from rfl)] at e1
      by_cases q : D.getD k 0 = v
      · rw [if_pos (show nI (D.getD k 0) = nI v by rw [q])] at e1
        exact ⟨true, ⟨fun _ => ⟨k, by omega, q⟩, fun _ => rfl⟩, e1⟩
      · rw [if_neg (fun z => q ((nI_eq (by omega) (by omega)).mp z))] at e1
        refine ⟨false, ⟨fun z => Bool.noConfusion z, fun ⟨j, hj, e⟩ => ?_⟩, e1⟩
        by_cases hjk : j = k
        · subst hjk; exact absurd e q
        · exact hb.mpr ⟨j, by omega, e⟩) false ⟨fun z => Bool.noConfusion z, fun ⟨j, hj, _⟩ => absurd hj (Nat.not_lt_zero j)⟩
  have hmem : b = true ↔ v ∈ D := hb.trans (zgd_mem D v).symm
  have e1 := r1.trans (zd_X9_orders_95 (zv_ev dp) g h x1 x2 (nI D.length) (zpm D) x5 (nI v) (if b = true then 1 else 0) (nI D.length))
  rw [if_pos (nI_le (Nat.le_refl _) (by omega)), zi_in hl (by decide), nI_clamp (by omega), nI_1, cond_true] at e1
  cases b with
  | true =>
    have hv' : v ∈ D := hmem.mp rfl
    have ez : zad D (some v) = D := if_pos hv'
    have hD0 : D ≠ [] := fun e => by rw [e] at hv'; cases hv'
    have em : zpm D = nI (zmi D) := if_neg hD0
    have hle := zmi_le D v hv'
    rw [if_neg (show ¬ (if true = true then (1 : Int32) else 0) = 0 by decide)] at e1
    rw [ez]
    refine ⟨g, some (.int (if true = true then 1 else 0)), some (.int (nI D.length)), fun _ _ => rfl, hM, e1.trans ?_⟩
    rw [em, if_neg (zi_ne9 (by omega)), if_pos (nI_le hle (by omega))]
  | false =>
    have hv' : ¬ v ∈ D := fun z => Bool.noConfusion (hmem.mpr z)
    have ez : zad D (some v) = D ++ [v] := if_neg hv'
    rw [if_pos (show (if false = true then (1 : Int32) else 0) = 0 from rfl)] at e1
    rw [ez]
    have em' : zpm (D ++ [v]) = nI (min (zmi D) v) := by
      unfold zpm
      rw [if_neg (by simp), zmi_snoc]
    have hM' : zpM (zv_w g 134 D.length (nI v)) (D ++ [v]) := by
      intro j hj
      rw [List.length_append, List.length_singleton] at hj
      rw [zgd_app]
      by_cases hjl : j = D.length
      · rw [hjl, zw_same, if_neg (by omega), if_pos rfl]
      · rw [zw_other _ _ _ hjl, if_pos (by omega)]
        exact hM j (by omega)
    refine ⟨zv_w g 134 D.length (nI v), some (.int (if false = true then 1 else 0)), some (.int (nI D.length)), fun x hx => zw_cell _ _ _ hx, hM', e1.trans ?_⟩
    rw [List.length_append, List.length_singleton, em']
    by_cases hD0 : D = []
    · have em : zpm D = -9 := if_pos hD0
      have ez0 : zmi D = 100000 := by rw [hD0]; rfl
      rw [em, if_pos rfl, ez0, show min 100000 v = v by omega]
    · have em : zpm D = nI (zmi D) := if_neg hD0
      rw [em, if_neg (zi_ne9 (by omega))]
      by_cases q : zmi D ≤ v
      · rw [if_pos (nI_le q (by omega)), show min (zmi D) v = zmi D by omega]
      · rw [if_neg (fun z => q ((nI_leI (by omega) (by omega)).mp z)), show min (zmi D) v = v by omega]
noncomputable def za_ov (T : zT) (X : zX) (w : Nat) : Int32 := if w = 0 then nI ((zp_L (zT_n T)).countP fun c => (zp_v T X c).isSome) else if w = 1 then nI (zfo (zp_v T X) (zp_L (zT_n T))).length else zpm (zfo (zp_v T X) (zp_L (zT_n T)))
theorem go_orders (a : Int32) : zGo 102 194 [.int a] := by
  intro Z ok
  have h5 := ok.1.1.2.1
  have hn1 := ok.1.1.1
  have hvb : ∀ c v, zp_v Z.1.1 Z.1.2.1 c = some v → v < 100000 := fun c v e => zp_v_lt ok.1.1 e
  rcases zi_rng (a := a) (n := 2) (by decide) 2 rfl with ⟨ha, hx⟩ | ⟨w, hw, rfl, k1, k2, k3, ha⟩
  · refine ⟨(-2, 0, 0), Z, ok, zCl_q fun g h hB => ⟨g, hB.1, fun _ _ => rfl, zs_X8_orders ((zd_X8_orders _ g h a).trans ?_)⟩, zMd_q fun g h hB => ?_⟩
    · rcases hx with hx | ⟨hx, hy, _⟩
      · rw [if_pos hx]
      · rw [if_neg hx, if_neg hy]
    · have hst := zd_X9_orders (zv_ev 10) g h a
      rw [ev_inr (dp := 9) (zv_w g 116 0 0, h) 2 a 2 rfl (by decide), if_neg ha] at hst
      exact ⟨_, zN_0 g, zs_X9_orders hst⟩
  have hw3 : w = 0 ∨ w = 1 ∨ w = 2 := by omega
  refine ⟨(za_ov Z.1.1 Z.1.2.1 w, 0, 0), Z, ok, zCl_t fun g h hB => ?_, zMd_q fun g h hB => ?_⟩
  · obtain ⟨g1, f1, C1, r1⟩ := ev_trial (dp := 8) (Dm := (g, h)) hB.1
    dsimp only at f1 r1
    obtain ⟨g2, F2, c2, ⟨n2, -, m2⟩, r2⟩ := ev_tryAll (dp := 3) (g := g1) (h := h) C1
    have hst := zd_X8_orders (zv_ev 10) g h (nI w)
    rw [if_neg k1, if_pos k2, r1] at hst
    simp only [Option.bind_some] at hst
    rw [r2] at hst
    simp only [Option.bind_some] at hst
    rw [c2, n2] at hst
    refine ⟨g2, zF_trans (zF_mono f1 (by decide) (by decide)) F2, zs_X8_orders (hst.trans ?_)⟩
    have hlen := zfo_len (zp_v Z.1.1 Z.1.2.1) (zp_L (zT_n Z.1.1))
    have hL := (zp_L_0 (zT_n Z.1.1) (by omega) hn1).1.2
    unfold za_ov
    rcases hw3 with rfl | rfl | rfl
    · rfl
    · rfl
    · show (if nI (zfo (zp_v Z.1.1 Z.1.2.1) (zp_L (zT_n Z.1.1))).length = 0 then _ else _) = zv_ri (zpm (zfo (zp_v Z.1.1 Z.1.2.1) (zp_L (zT_n Z.1.1)))) _ _
      unfold zpm
      by_cases q : zfo (zp_v Z.1.1 Z.1.2.1) (zp_L (zT_n Z.1.1)) = []
      · rw [if_pos ((zi_0 (by omega)).mpr (by rw [q]; rfl)), if_pos q]
      · rw [if_neg (fun z => q (List.length_eq_zero_iff.mp ((zi_0 (by omega)).mp z))), if_neg q, m2 q]
  · have hB0 := zBM_0 hB
    obtain ⟨g1, f1, K1, r1⟩ := ev_layCosts_119 (dp := 8) (Dm := (zv_w g 116 0 0, h)) (T := Z.1.1) (X := Z.1.2.1) (A := Z.1.2.2) ok.1.1 ok.1.2.1 hB0.1
    dsimp only at f1 r1
    have hst := zd_X9_orders (zv_ev 10) g h (nI w)
    rw [ev_inr (dp := 9) (zv_w g 116 0 0, h) 2 (nI w) 2 rfl (by decide), if_pos ha] at hst
    simp only [Option.bind_some] at hst
    rw [if_neg (by decide), r1] at hst
    have hpw := zp_pw hn1 h5 h5
    have hperm := zp_perm hn1 h5
    have hL := (zp_L_0 (zT_n Z.1.1) (by omega) hn1).1.2
    obtain ⟨⟨g2, u6, u7, u8⟩, ⟨N2, K2, M2⟩, q2⟩ := zl_up (σ := (Nat → Nat → Int32) × Option Value × Option Value × Option Value) (fun c s => zv_m zt_X9_orders (zv_ev 10) false 39 [some (.ref 116), some (.int (nI w)), some (.int (nI (((List.range c).filter fun c => zp_o (zT_n Z.1.1) c (zT_n Z.1.1) == 2 ^ zT_n Z.1.1 - 1).countP fun c => (zp_v Z.1.1 Z.1.2.1 c).isSome))), some (.int (nI (zfo (zp_v Z.1.1 Z.1.2.1) ((List.range c).filter fun c => zp_o (zT_n Z.1.1) c (zT_n Z.1.1) == 2 ^ zT_n Z.1.1 - 1)).length)), some (.int (zpm (zfo (zp_v Z.1.1 Z.1.2.1) ((List.range c).filter fun c => zp_o (zT_n Z.1.1) c (zT_n Z.1.1) == 2 ^ zT_n Z.1.1 - 1)))), some (.int (nI c)), s.2.1, s.2.2.1, s.2.2.2] [] zS0 (s.1, h)) (zT_n Z.1.1 ^ zT_n Z.1.1) (fun c s => zN g s.1 ∧ zM_K s.1 Z.1.1 Z.1.2.1 ∧ zpM s.1 (zfo (zp_v Z.1.1 Z.1.2.1) ((List.range c).filter fun c => zp_o (zT_n Z.1.1) c (zT_n Z.1.1) == 2 ^ zT_n Z.1.1 - 1))) (by
      rintro c ⟨s, u6, u7, u8⟩ hc ⟨Ns, Ks, Ms⟩
      dsimp only at Ns Ks Ms
      have Bs := zBM_q hB Ns
      have c0 : s 119 0 = nI (zT_n Z.1.1) := Bs.1.1
      have rng : (List.range (c + 1)).filter (fun c => zp_o (zT_n Z.1.1) c (zT_n Z.1.1) == 2 ^ zT_n Z.1.1 - 1) = (List.range c).filter (fun c => zp_o (zT_n Z.1.1) c (zT_n Z.1.1) == 2 ^ zT_n Z.1.1 - 1) ++ [c].filter (fun c => zp_o (zT_n Z.1.1) c (zT_n Z.1.1) == 2 ^ zT_n Z.1.1 - 1) := by
        rw [List.range_succ, List.filter_append]
      have hmono := zr_mono (fun c => zp_o (zT_n Z.1.1) c (zT_n Z.1.1) == 2 ^ zT_n Z.1.1 - 1) (a := c + 1) (zT_n Z.1.1 ^ zT_n Z.1.1) (by omega)
      have hlm : ((List.range (zT_n Z.1.1 ^ zT_n Z.1.1)).filter (fun c => zp_o (zT_n Z.1.1) c (zT_n Z.1.1) == 2 ^ zT_n Z.1.1 - 1)).length ≤ 120 := by
        have := hperm.length_eq
        unfold zp_m at this
        omega
      generalize hl : (List.range c).filter (fun c => zp_o (zT_n Z.1.1) c (zT_n Z.1.1) == 2 ^ zT_n Z.1.1 - 1) = l at Ms rng ⊢
      rw [rng] at hmono ⊢
      have e1 := zd_X9_orders_39 (zv_ev 10) s h (nI w) (nI (l.countP fun c => (zp_v Z.1.1 Z.1.2.1 c).isSome)) (nI (zfo (zp_v Z.1.1 Z.1.2.1) l).length) (zpm (zfo (zp_v Z.1.1 Z.1.2.1) l)) (nI c) u6 u7 u8
      rw [c0, ev_power (dp := 9) (s, h) (by omega)] at e1
      simp only [Option.bind_some] at e1
      rw [if_neg (nI_ge hc (by omega)), ev_isOrder (dp := 8) (h := h) c0 hn1 h5 (by omega), nI_1] at e1
      simp only [Option.bind_some] at e1
      by_cases ho : (zp_o (zT_n Z.1.1) c (zT_n Z.1.1) == 2 ^ zT_n Z.1.1 - 1) = true
      · have hf1 : [c].filter (fun c => zp_o (zT_n Z.1.1) c (zT_n Z.1.1) == 2 ^ zT_n Z.1.1 - 1) = [c] := by
          rw [List.filter_cons, if_pos ho, List.filter_nil]
        rw [hf1] at hmono ⊢
        rw [if_pos ho, if_neg (show ¬ (1 : Int32) = 0 by decide)] at e1
        obtain ⟨g3, F3, R3, r3⟩ := ev_restsBy (dp := 3) (h := h) ok.1.1 ok.1.2.1 Bs.1 Ks (show c < 10000 by omega)
        have N3 : zN g g3 := zN_trans Ns (zN_c (fun x hx => F3 x (by omega) (by omega) (by omega) (by omega)))
        have K3 : zM_K g3 Z.1.1 Z.1.2.1 := fun i j hi hj => (congrFun (F3 128 (by decide) (by decide) (by decide) (by decide)) _).trans (Ks i j hi hj)
        have M3 : zpM g3 (zfo (zp_v Z.1.1 Z.1.2.1) l) := fun j hj => (congrFun (F3 134 (by decide) (by decide) (by decide) (by decide)) j).trans (Ms j hj)
        rw [r3] at e1
        simp only [Option.bind_some] at e1
        rw [zfo_snoc, List.countP_append, List.countP_cons, List.countP_nil]
        cases hz : zp_t Z.1.1 Z.1.2.1 (zp_d (zT_n Z.1.1) c) 30 zA_0 with
        | none =>
          rw [hz] at e1
          have hv := zp_v_none hz
          rw [hv]
          exact ⟨(g3, _, _, _), ⟨N3, K3, M3⟩, e1.trans (if_pos rfl)⟩
        | some B =>
          rw [hz] at e1
          have hv := zp_v_some hz
          have hrl := za_rn_5 B h5
          have e2 := e1.trans (if_neg (by simp))
          rw [ev_told (dp := 8) (Dm := (g3, h)) ok.1.1 (R3 B hz)] at e2
          simp only [Option.bind_some] at e2
          rw [hv]
          have hlen := zfo_len (zp_v Z.1.1 Z.1.2.1) l
          rw [List.length_append, List.length_singleton] at hmono
          obtain ⟨g4, v7, v8, f4, M4, r4⟩ := zx_oldM (dp := 10) (g := g3) (h := h) (v := za_rn B (zT_n Z.1.1)) M3 (by omega) (zfo_b hvb l) hrl (nI w) (nI (l.countP fun c => (zp_v Z.1.1 Z.1.2.1 c).isSome) + 1) (nI c)
          rw [nI_1, nI_1] at r4
          rw [nI_1] at e2
          exact ⟨(g4, _, _, _), ⟨zN_trans N3 (zN_c (fun x hx => f4 x (by omega))), fun i j hi hj => (congrFun (f4 128 (by decide)) _).trans (K3 i j hi hj), M4⟩, e2.trans r4⟩
      · have hf1 : [c].filter (fun c => zp_o (zT_n Z.1.1) c (zT_n Z.1.1) == 2 ^ zT_n Z.1.1 - 1) = [] := by
          rw [List.filter_cons, if_neg ho, List.filter_nil]
        rw [hf1, List.append_nil]
        rw [if_neg ho, if_pos rfl] at e1
        exact ⟨(s, _, _, _), ⟨Ns, Ks, Ms⟩, e1⟩) (g1, none, none, none) ⟨zN_trans (zN_0 g) (zN_c (fun x hx => f1 x (by omega))), K1, fun j hj => absurd hj (Nat.not_lt_zero j)⟩
    dsimp only at N2 K2 M2 q2
    have c0 : g2 119 0 = nI (zT_n Z.1.1) := (zBM_q hB N2).1.1
    have e2 := zd_X9_orders_39 (zv_ev 10) g2 h (nI w) (nI ((zp_m (zT_n Z.1.1)).countP fun c => (zp_v Z.1.1 Z.1.2.1 c).isSome)) (nI (zfo (zp_v Z.1.1 Z.1.2.1) (zp_m (zT_n Z.1.1))).length) (zpm (zfo (zp_v Z.1.1 Z.1.2.1) (zp_m (zT_n Z.1.1)))) (nI (zT_n Z.1.1 ^ zT_n Z.1.1)) u6 u7 u8
    rw [c0, ev_power (dp := 9) (g2, h) (by omega)] at e2
    simp only [Option.bind_some] at e2
    rw [if_pos (nI_le (Nat.le_refl _) (by omega))] at e2
    refine ⟨g2, N2, zs_X9_orders (hst.trans (q2.trans (e2.trans ?_)))⟩
    obtain ⟨s1, s2, s3⟩ := zfo_same hperm hvb
    have s4 : zpm (zfo (zp_v Z.1.1 Z.1.2.1) (zp_L (zT_n Z.1.1))) = zpm (zfo (zp_v Z.1.1 Z.1.2.1) (zp_m (zT_n Z.1.1))) := by
      unfold zpm
      by_cases q : zfo (zp_v Z.1.1 Z.1.2.1) (zp_L (zT_n Z.1.1)) = []
      · rw [if_pos q, if_pos (List.length_eq_zero_iff.mp (by rw [← s1, q]; rfl))]
      · rw [if_neg q, if_neg (fun z => q (List.length_eq_zero_iff.mp (by rw [s1, z]; rfl))), s2]
    unfold za_ov
    rw [s1, s3, s4]
    rcases hw3 with rfl | rfl | rfl <;> rfl
