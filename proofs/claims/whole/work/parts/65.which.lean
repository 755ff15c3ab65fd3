/-! ===== what was seen ===== -/
abbrev zSn : Type := (Nat → Nat) × (Nat → Nat) × (Nat → Nat) × Nat
def zq_so (T : zT) (A : zA) (r : Bool) (S : zSn) (k : Nat) : Bool := r && (decide (S.1 k < zT_n T) && (decide (A (S.1 k) 0 ≠ 0) && decide (zc_e (A (S.1 k) 0) = S.2.1 k)))
def zq_ag (T : zT) (A : zA) (r : Bool) (S : zSn) : Nat → Bool
  | 0 => true
  | k + 1 => zq_ag T A r S k && (zq_so T A r S k == decide (S.2.2.1 k = 1))
def zS_ok (S : zSn) : Prop := S.2.2.2 ≤ 6 ∧ ∀ k, k < S.2.2.2 → S.1 k < 5 ∧ S.2.1 k < 4 ∧ S.2.2.1 k < 2
theorem zq_mono {T : zT} {A : zA} {r : Bool} {S : zSn} {j : Nat} (h : zq_ag T A r S j = false) : ∀ k, j ≤ k → zq_ag T A r S k = false := by
  intro k hk
  induction k with
  | zero => rw [show 0 = j by omega]; exact h
  | succ k ih =>
    by_cases hj : j = k + 1
    · rw [← hj]; exact h
    · show (zq_ag T A r S k && _) = false
      rw [ih (by omega), Bool.false_and]
theorem ev_agree {dp : Nat} {g : Nat → Nat → Int32} {h : Nat → Nat → Int64} {T : zT} {X : zX} {A : zA} {S : zSn} {r : Bool} (hC : zC 27 g T X A) (hb : zb5 g S) (hS : zS_ok S) : zv_ev (dp + 3) 44 [.ref 112, .ref 27, .int (if r = true then 1 else 0)] zS0 (g, h) = zo_i (if zq_ag T A r S S.2.2.2 = true then 1 else 0) (g, h) := by
  have h5 := hC.1.2.1
  have c0 : g 9 0 = nI (zT_n T) := hC.2.2.2.1.1
  have h6 := hS.1
  rcases zl_ex (σ := Option Value × Option Value × Option Value) (fun k u => zv_m zt_X5_agree (zv_ev (dp + 2)) true 2 [some (.ref 112), some (.ref 27), some (.int (if r = true then 1 else 0)), some (.int (nI k)), u.1, u.2.1, u.2.2] [] zS0 (g, h)) S.2.2.2 (fun k _ => zq_ag T A r S k = true) (fun z => zq_ag T A r S S.2.2.2 = false ∧ z = zv_ri 0 zS0 (g, h)) (by
    rintro k ⟨u4, u5, u6⟩ hk hI
    obtain ⟨s1, s2, s3⟩ := hS.2 k hk
    obtain ⟨b1, b2, b3⟩ := hb.2 k hk
    have hst := zd_X5_agree_2 (zv_ev (dp + 2)) g h (if r = true then 1 else 0) (nI k) u4 u5 u6
    have el := zc_e_lt (A (S.1 k) 0)
    have e1 : (nI (S.2.2.1 k) = 1) ↔ S.2.2.1 k = 1 := zi_eqc 1 1 rfl (by omega) (by decide)
    rw [hb.1, if_neg (nI_ge hk (by omega)), if_neg (zi_ge 6 6 rfl (by omega) (by decide)), zi_in (n := 6) (by omega) (by decide), nI_clamp (by omega), b1, ev_hasRouter (dp := dp + 1) (g, h) (nI (S.1 k)) c0 h5, cond_true] at hst
    simp only [Option.bind_some] at hst
    rw [b3, nI_1, ev_firstC_27 (dp := dp) (Dm := (g, h)) hC s1] at hst
    simp only [Option.bind_some, cond_true] at hst
    rw [b2, b3] at hst
    have go0 : zq_so T A r S k = false → ∀ u, (if nI (S.2.2.1 k) = 1 then zv_ri 0 zS0 (g, h) else zv_m zt_X5_agree (zv_ev (dp + 2)) true 2 [some (.ref 112), some (.ref 27), some (.int (if r = true then 1 else 0)), some (.int (nI (k + 1))), some (.int (nI (S.1 k))), u, some (.int 0)] [] zS0 (g, h)) = zv_m zt_X5_agree (zv_ev (dp + 2)) true 2 [some (.ref 112), some (.ref 27), some (.int (if r = true then 1 else 0)), some (.int (nI k)), u4, u5, u6] [] zS0 (g, h) → (zq_ag T A r S S.2.2.2 = false ∧ zv_m zt_X5_agree (zv_ev (dp + 2)) true 2 [some (.ref 112), some (.ref 27), some (.int (if r = true then 1 else 0)), some (.int (nI k)), u4, u5, u6] [] zS0 (g, h) = zv_ri 0 zS0 (g, h)) ∨ ∃ s' : Option Value × Option Value × Option Value, zq_ag T A r S (k + 1) = true ∧ zv_m zt_X5_agree (zv_ev (dp + 2)) true 2 [some (.ref 112), some (.ref 27), some (.int (if r = true then 1 else 0)), some (.int (nI k)), u4, u5, u6] [] zS0 (g, h) = zv_m zt_X5_agree (zv_ev (dp + 2)) true 2 [some (.ref 112), some (.ref 27), some (.int (if r = true then 1 else 0)), some (.int (nI (k + 1))), s'.1, s'.2.1, s'.2.2] [] zS0 (g, h) := by
      intro hso u hrow
      by_cases hw : S.2.2.1 k = 1
      · rw [if_pos (e1.mpr hw)] at hrow
        refine Or.inl ⟨zq_mono (j := k + 1) ?_ _ (by omega), hrow.symm⟩
        show (zq_ag T A r S k && (zq_so T A r S k == decide (S.2.2.1 k = 1))) = false
        rw [hso, hw]; simp
      · rw [if_neg (fun z => hw (e1.mp z))] at hrow
        refine Or.inr ⟨(_, _, _), ?_, hrow.symm⟩
        show (zq_ag T A r S k && (zq_so T A r S k == decide (S.2.2.1 k = 1))) = true
        rw [hso, hI]; simp [hw]
    cases hr : r with
    | false =>
      subst hr
      rw [if_neg (by decide), if_pos rfl] at hst
      exact go0 (by simp [zq_so]) _ hst.symm
    | true =>
      subst hr
      rw [if_pos rfl, if_neg (by decide)] at hst
      by_cases hn : S.1 k < zT_n T
      · rw [zi_in hn (by omega), cond_true, if_neg (by decide)] at hst
        by_cases he : (if A (S.1 k) 0 = 0 then -1 else nI (zc_e (A (S.1 k) 0))) = nI (S.2.1 k)
        · have hso : zq_so T A true S k = true := by
            by_cases h0 : A (S.1 k) 0 = 0
            · rw [if_pos h0] at he
              exact absurd he.symm (zi_ne1 (by omega))
            · rw [if_neg h0] at he
              have := (nI_eq (by omega) (by omega)).mp he
              simp [zq_so, hn, h0, this]
          rw [if_pos he] at hst
          by_cases hw : S.2.2.1 k = 1
          · rw [if_pos (e1.mpr hw)] at hst
            refine Or.inr ⟨(_, _, _), ?_, hst⟩
            show (zq_ag T A true S k && (zq_so T A true S k == decide (S.2.2.1 k = 1))) = true
            rw [hso, hI]; simp [hw]
          · rw [if_neg (fun z => hw (e1.mp z))] at hst
            refine Or.inl ⟨zq_mono (j := k + 1) ?_ _ (by omega), hst⟩
            show (zq_ag T A true S k && (zq_so T A true S k == decide (S.2.2.1 k = 1))) = false
            rw [hso]; simp [hw]
        · rw [if_neg he] at hst
          refine go0 ?_ _ hst.symm
          by_cases h0 : A (S.1 k) 0 = 0
          · simp [zq_so, h0]
          · rw [if_neg h0] at he
            have : zc_e (A (S.1 k) 0) ≠ S.2.1 k := fun z => he (by rw [z])
            simp [zq_so, this]
      · rw [zi_inf (by omega) (by omega), cond_false, if_pos rfl] at hst
        exact go0 (by simp [zq_so, hn]) _ hst.symm) (none, none, none) rfl with ⟨q1, q2⟩ | ⟨u, q1, q2⟩
  · have hv : (if zq_ag T A r S S.2.2.2 = true then (1 : Int32) else 0) = 0 := if_neg (by rw [q1]; decide)
    rw [hv]
    exact zs_X5_agree ((zd_X5_agree _ g h _).trans q2)
  · have hv : (if zq_ag T A r S S.2.2.2 = true then (1 : Int32) else 0) = 1 := if_pos q1
    rw [hv]
    refine zs_X5_agree ((zd_X5_agree _ g h _).trans (q2.trans ?_))
    rw [zd_X5_agree_2, hb.1, if_pos (nI_le (Nat.le_refl _) (by omega))]
noncomputable def za_wh (T : zT) (X : zX) (S : zSn) (e : Nat) : Bool := zq_ag T (zoA T (zX_su X (za_rm (2 ^ zT_m T - 1) e)) zA_0) (zr T X (za_rm (2 ^ zT_m T - 1) e)) S S.2.2.2
noncomputable def za_ws (T : zT) (X : zX) (S : zSn) : Nat → Nat
  | 0 => 0
  | k + 1 => za_ws T X S k ||| (if za_wh T X S k = true then 2 ^ k else 0)
theorem za_ws_lt (T : zT) (X : zX) (S : zSn) : ∀ k, k ≤ 4 → za_ws T X S k < 16 := by
  intro k
  induction k with
  | zero => intro _; exact (by decide : (0 : Nat) < 16)
  | succ k ih =>
    intro hk
    refine Nat.or_lt_two_pow (n := 4) (ih (by omega)) ?_
    split
    · exact z2k (by omega)
    · decide
theorem ev_agrees {dp : Nat} {g : Nat → Nat → Int32} {h : Nat → Nat → Int64} {Z : zZ} (ok : zOK Z) (hB : zBM g h Z) {e : Nat} (he : e < zT_m Z.1.1) : ∃ g', zN g g' ∧ zv_ev (dp + 9) 202 [.ref 116, .int (nI e)] zS0 (g, h) = zo_i (if za_wh Z.1.1 Z.1.2.1 Z.2.2.2.2.1 e = true then 1 else 0) (g', h) := by
  have h5 := ok.1.1.2.1
  have h4 := ok.1.1.2.2.1
  have h16 := z2m h4
  have h1 := Nat.two_pow_pos (zT_m Z.1.1)
  have hu : za_rm (2 ^ zT_m Z.1.1 - 1) e < 2 ^ zT_m Z.1.1 := Nat.lt_of_le_of_lt Nat.and_le_left (by omega)
  have hS : zS_ok Z.2.2.2.2.1 := ok.2.2.2.2
  obtain ⟨g1, N1, f1, R1, r1⟩ := ev_restsM (dp := dp) (Dm := (g, h)) (u := za_rm (2 ^ zT_m Z.1.1 - 1) e) (v := zX_ex Z.1.2.1) ok.1.1 ok.1.2.1 hu ok.1.2.1.2.2.2.2.2.1 hB.1
  dsimp only at N1
  have B1 := zBM_q hB N1
  have hb := B1.2.2.2.2.1
  have hWA : za_W Z.1.1 (zoA Z.1.1 (zX_su Z.1.2.1 (za_rm (2 ^ zT_m Z.1.1 - 1) e)) zA_0) := za_it_W ok.1.1 (zA_0_W _) _
  have r1' : zv_ev (dp + 8) 190 [.ref 116, .int (nI (za_rm (2 ^ zT_m Z.1.1 - 1) e)), .int (nI (zX_ex Z.1.2.1))] zS0 (g, h) = zo_i (if zr Z.1.1 Z.1.2.1 (za_rm (2 ^ zT_m Z.1.1 - 1) e) = true then 1 else 0) (g1, h) := r1.trans (congrArg (fun v => zo_i v (g1, h)) (zr_if Z.1.1 Z.1.2.1 _ 1 0))
  have hst := zd_X9_agrees (zv_ev (dp + 8)) g h (nI e)
  rw [show g 119 1 = nI (zT_m Z.1.1) from hB.1.2.1, zi_sh (by omega), show nI (2 ^ zT_m Z.1.1) - 1 = nI (2 ^ zT_m Z.1.1 - 1) from pk_sub (a := 2 ^ zT_m Z.1.1) (b := 1) h1, zi_rm (by omega) (by omega), show g 119 3 = nI (zX_ex Z.1.2.1) from hB.1.2.2.2.1, r1'] at hst
  simp only [Option.bind_some] at hst
  refine ⟨g1, N1, ?_⟩
  generalize hr : zr Z.1.1 Z.1.2.1 (za_rm (2 ^ zT_m Z.1.1 - 1) e) = r at hst
  have R1' : zM_R (g1 121) Z.1.1 (zX_su Z.1.2.1 (za_rm (2 ^ zT_m Z.1.1 - 1) e)) (zoA Z.1.1 (zX_su Z.1.2.1 (za_rm (2 ^ zT_m Z.1.1 - 1) e)) zA_0) := R1
  unfold za_wh
  rw [hr]
  generalize zoA Z.1.1 (zX_su Z.1.2.1 (za_rm (2 ^ zT_m Z.1.1 - 1) e)) zA_0 = A at R1' hWA ⊢
  generalize Z.2.2.2.2.1 = S at hS hb ⊢
  have h6 := hS.1
  obtain ⟨⟨u6, u7⟩, -, q2⟩ := zl_up (σ := Option Value × Option Value) (fun k u => zv_m zt_X9_agrees (zv_ev (dp + 8)) true 35 [some (.ref 116), some (.int (nI e)), some (.int (nI (2 ^ zT_m Z.1.1 - 1))), some (.int (if r = true then 1 else 0)), some (.int (if zq_ag Z.1.1 A r S k = true then 1 else 0)), some (.int (nI k)), u.1, u.2] [] zS0 (g1, h)) S.2.2.2 (fun _ _ => True) (by
    rintro k ⟨u6, u7⟩ hk -
    obtain ⟨s1, s2, s3⟩ := hS.2 k hk
    obtain ⟨b1, b2, b3⟩ := hb.2 k hk
    have el := zc_e_lt (A (S.1 k) 0)
    have e1 : (nI (S.2.2.1 k) = 1) ↔ S.2.2.1 k = 1 := zi_eqc 1 1 rfl (by omega) (by decide)
    have hs := zd_X9_agrees_35 (zv_ev (dp + 8)) g1 h (some (.int (nI e))) (some (.int (nI (2 ^ zT_m Z.1.1 - 1)))) (if r = true then 1 else 0) (if zq_ag Z.1.1 A r S k = true then 1 else 0) (nI k) u6 u7
    have hch : g1 121 (71 + 6 * S.1 k + 3 * 0) = zm_v (A (S.1 k) 0) (zc_e (A (S.1 k) 0)) := (R1'.2.2.2.2.2.2.2.2 (S.1 k) 0 (by omega) (by decide)).1
    rw [hb.1, if_neg (nI_ge hk (by omega)), zi_in (n := 6) (by omega) (by decide), nI_clamp (by omega), b1, b2, b3, B1.1.1, B1.1.2.1, nI_1, show (Value.int 0) = Value.int (nI 0) from rfl, ev_at (dp := dp + 7) (g1, h), zx_at] at hs
    simp only [Option.bind_some, cond_true] at hs
    rw [zi_in (n := 101) (by omega) (by decide), nI_clamp (by omega), hch, b2, b3] at hs
    simp only [cond_true] at hs
    have fin : ∀ (so : Bool) (M : Int32 → Option zv_O), zq_so Z.1.1 A r S k = so → (if (if zq_ag Z.1.1 A r S k = true then (1 : Int32) else 0) = 0 then M 0 else if nI (S.2.2.1 k) = 1 then M (if so = true then 1 else 0) else M (if so = true then 0 else 1)) = M (if zq_ag Z.1.1 A r S (k + 1) = true then 1 else 0) := by
      intro so M hso
      have e : zq_ag Z.1.1 A r S (k + 1) = (zq_ag Z.1.1 A r S k && (so == decide (S.2.2.1 k = 1))) := by rw [← hso]; rfl
      rw [e]
      by_cases hw : S.2.2.1 k = 1
      · rw [if_pos (e1.mpr hw)]
        cases zq_ag Z.1.1 A r S k <;> cases so <;> simp [hw]
      · rw [if_neg (fun z => hw (e1.mp z))]
        cases zq_ag Z.1.1 A r S k <;> cases so <;> simp [hw]
    by_cases hn : zT_n Z.1.1 ≤ S.1 k
    · rw [if_pos (nI_le hn (by omega)), ite_self] at hs
      refine ⟨(_, _), trivial, hs.trans (fin false (fun v => zv_m zt_X9_agrees (zv_ev (dp + 8)) true 35 [some (.ref 116), some (.int (nI e)), some (.int (nI (2 ^ zT_m Z.1.1 - 1))), some (.int (if r = true then 1 else 0)), some (.int v), some (.int (nI (k + 1))), some (.int (nI 0)), some (.int (nI 0))] [] zS0 (g1, h)) ?_)⟩
      have : ¬ S.1 k < zT_n Z.1.1 := by omega
      simp [zq_so, this]
    · rw [if_neg (fun z => hn ((nI_leI (by omega) (by omega)).mp z))] at hs
      by_cases hm : zT_m Z.1.1 ≤ S.2.1 k
      · rw [if_pos (nI_le hm (by omega)), ite_self] at hs
        refine ⟨(_, _), trivial, hs.trans (fin false (fun v => zv_m zt_X9_agrees (zv_ev (dp + 8)) true 35 [some (.ref 116), some (.int (nI e)), some (.int (nI (2 ^ zT_m Z.1.1 - 1))), some (.int (if r = true then 1 else 0)), some (.int v), some (.int (nI (k + 1))), some (.int (nI 0)), some (.int (nI 0))] [] zS0 (g1, h)) ?_)⟩
        rcases hWA.1 (S.1 k) 0 with q | q
        · simp [zq_so, q]
        · have : zc_e (A (S.1 k) 0) ≠ S.2.1 k := by have := q.2.2.1; omega
          simp [zq_so, this]
      · rw [if_neg (fun z => hm ((nI_leI (by omega) (by omega)).mp z))] at hs
        cases hrr : r with
        | false =>
          rw [hrr, if_neg (show ¬ false = true by decide), if_pos rfl] at hs
          have fin' := fin false (fun v => zv_m zt_X9_agrees (zv_ev (dp + 8)) true 35 [some (.ref 116), some (.int (nI e)), some (.int (nI (2 ^ zT_m Z.1.1 - 1))), some (.int 0), some (.int v), some (.int (nI (k + 1))), some (.int 1), some (.int (nI 0))] [] zS0 (g1, h)) (by simp [zq_so, hrr])
          rw [hrr] at fin'
          exact ⟨(_, _), trivial, hs.trans fin'⟩
        | true =>
          rw [hrr, if_pos rfl, if_neg (show ¬ (1 : Int32) = 0 by decide)] at hs
          by_cases hq : zm_v (A (S.1 k) 0) (zc_e (A (S.1 k) 0)) = nI (S.2.1 k)
          · rw [if_pos hq] at hs
            have hso : zq_so Z.1.1 A r S k = true := by
              by_cases h0 : A (S.1 k) 0 = 0
              · rw [zm_v0 h0] at hq
                exact absurd hq.symm (zi_ne9 (by omega))
              · rw [zm_v1 h0] at hq
                have := (nI_eq (by omega) (by omega)).mp hq
                have hn' : S.1 k < zT_n Z.1.1 := by omega
                simp [zq_so, hrr, hn', h0, this]
            have fin' := fin true (fun v => zv_m zt_X9_agrees (zv_ev (dp + 8)) true 35 [some (.ref 116), some (.int (nI e)), some (.int (nI (2 ^ zT_m Z.1.1 - 1))), some (.int 1), some (.int v), some (.int (nI (k + 1))), some (.int 1), some (.int 1)] [] zS0 (g1, h)) hso
            rw [hrr] at fin'
            exact ⟨(_, _), trivial, hs.trans fin'⟩
          · rw [if_neg hq] at hs
            have hso : zq_so Z.1.1 A r S k = false := by
              by_cases h0 : A (S.1 k) 0 = 0
              · simp [zq_so, h0]
              · rw [zm_v1 h0] at hq
                have : zc_e (A (S.1 k) 0) ≠ S.2.1 k := fun z => hq (by rw [z])
                simp [zq_so, this]
            have fin' := fin false (fun v => zv_m zt_X9_agrees (zv_ev (dp + 8)) true 35 [some (.ref 116), some (.int (nI e)), some (.int (nI (2 ^ zT_m Z.1.1 - 1))), some (.int 1), some (.int v), some (.int (nI (k + 1))), some (.int 1), some (.int (nI 0))] [] zS0 (g1, h)) hso
            rw [hrr] at fin'
            exact ⟨(_, _), trivial, hs.trans fin'⟩) (none, none) trivial
  refine zs_X9_agrees (hst.trans (q2.trans ?_))
  dsimp only
  rw [zd_X9_agrees_35, hb.1, if_pos (nI_le (Nat.le_refl _) (by omega))]
  cases zq_ag Z.1.1 A r S S.2.2.2 <;> rfl
theorem go_which : zGo 107 203 [] := by
  intro Z ok
  have h4 := ok.1.1.2.2.1
  have h16 := z2m h4
  have h1 := Nat.two_pow_pos (zT_m Z.1.1)
  have wl := za_ws_lt Z.1.1 Z.1.2.1 Z.2.2.2.2.1
  refine ⟨(nI (za_ws Z.1.1 Z.1.2.1 Z.2.2.2.2.1 (zT_m Z.1.1)), 0, 0), Z, ok, zCl_t fun g h hB => ?_, zMd_q fun g h hB => ?_⟩
  · obtain ⟨g1, f1, C1, r1⟩ := ev_trial (dp := 8) (Dm := (g, h)) hB.1
    dsimp only at f1 r1
    have cm : ∀ s : Nat → Nat → Int32, zF 27 43 g s → s 9 1 = nI (zT_m Z.1.1) := fun s hs => (congrFun (hs 9 (by decide)) 1).trans (zB_m hB)
    have F1 : zF 27 43 g g1 := zF_mono f1 (by decide) (by decide)
    obtain ⟨g2, ⟨F2, V2⟩, q2⟩ := zl_up (fun k (s : Nat → Nat → Int32) => zv_m zt_X8_which (zv_ev 10) false 27 [some (.ref 0), some (.int (nI (za_ws Z.1.1 Z.1.2.1 Z.2.2.2.2.1 k))), some (.int (nI (2 ^ zT_m Z.1.1 - 1))), some (.int (nI k))] [] zS0 (s, h)) (zT_m Z.1.1) (fun k s => zF 27 43 g s ∧ zV s Z.1.1 Z.1.2.1) (by
      rintro k s hk ⟨Fs, Vs⟩
      have hu : za_rm (2 ^ zT_m Z.1.1 - 1) k < 2 ^ zT_m Z.1.1 := Nat.lt_of_le_of_lt Nat.and_le_left (by omega)
      have hst := zd_X8_which_27 (zv_ev 10) s h (nI (za_ws Z.1.1 Z.1.2.1 Z.2.2.2.2.1 k)) (nI (2 ^ zT_m Z.1.1 - 1)) (nI k)
      obtain ⟨g3, f3, C3, r3⟩ := ev_tryUp (dp := 3) (h := h) Vs hu
      have F3 : zF 27 43 g g3 := zF_trans Fs (zF_mono f3 (by decide) (by decide))
      have wk := wl k (by omega)
      rw [cm s Fs, if_neg (nI_ge hk (by omega)), zi_rm (by omega) (by omega), r3, zr_if] at hst
      simp only [Option.bind_some] at hst
      rw [ev_agree (dp := 7) (g := g3) (h := h) (S := Z.2.2.2.2.1) (r := zr Z.1.1 Z.1.2.1 (za_rm (2 ^ zT_m Z.1.1 - 1) k)) C3 (zBC_t hB F3).2.2.2.2.1 ok.2.2.2.2, nI_1] at hst
      simp only [Option.bind_some] at hst
      show ∃ s', (zF 27 43 g s' ∧ zV s' Z.1.1 Z.1.2.1) ∧ _ = zv_m zt_X8_which (zv_ev 10) false 27 [some (.ref 0), some (.int (nI (za_ws Z.1.1 Z.1.2.1 Z.2.2.2.2.1 k ||| (if za_wh Z.1.1 Z.1.2.1 Z.2.2.2.2.1 k = true then 2 ^ k else 0)))), some (.int (nI (2 ^ zT_m Z.1.1 - 1))), some (.int (nI (k + 1)))] [] zS0 (s', h)
      unfold za_wh
      by_cases hq : zq_ag Z.1.1 (zoA Z.1.1 (zX_su Z.1.2.1 (za_rm (2 ^ zT_m Z.1.1 - 1) k)) zA_0) (zr Z.1.1 Z.1.2.1 (za_rm (2 ^ zT_m Z.1.1 - 1) k)) Z.2.2.2.2.1 Z.2.2.2.2.1.2.2.2 = true
      · rw [if_pos hq, if_neg (by decide), zi_sh (by omega), zi_or (by omega) (by have := z2k (show k < 4 by omega); omega)] at hst
        rw [if_pos hq]
        exact ⟨g3, ⟨F3, zV_of hu C3⟩, hst⟩
      · rw [if_neg hq, if_pos rfl] at hst
        rw [if_neg hq, Nat.or_zero]
        exact ⟨g3, ⟨F3, zV_of hu C3⟩, hst⟩) g1 ⟨F1, zV_0 C1⟩
    have hst := zd_X8_which (zv_ev 10) g h
    rw [zB_m hB, zi_sh (by omega), show nI (2 ^ zT_m Z.1.1) - 1 = nI (2 ^ zT_m Z.1.1 - 1) from pk_sub (a := 2 ^ zT_m Z.1.1) (b := 1) h1, r1] at hst
    have e2 := zd_X8_which_27 (zv_ev 10) g2 h (nI (za_ws Z.1.1 Z.1.2.1 Z.2.2.2.2.1 (zT_m Z.1.1))) (nI (2 ^ zT_m Z.1.1 - 1)) (nI (zT_m Z.1.1))
    rw [cm g2 F2, if_pos (nI_le (Nat.le_refl _) (by omega))] at e2
    exact ⟨g2, F2, zs_X8_which (hst.trans (q2.trans e2))⟩
  · obtain ⟨g2, N2, q2⟩ := zl_up (fun k (s : Nat → Nat → Int32) => zv_m zt_X9_which (zv_ev 10) false 9 [some (.ref 116), some (.int (nI (za_ws Z.1.1 Z.1.2.1 Z.2.2.2.2.1 k))), some (.int (nI k))] [] zS0 (s, h)) (zT_m Z.1.1) (fun k s => zN g s) (by
      rintro k s hk Ns
      have Bs := zBM_q hB Ns
      have hst := zd_X9_which_9 (zv_ev 10) s h (nI (za_ws Z.1.1 Z.1.2.1 Z.2.2.2.2.1 k)) (nI k)
      obtain ⟨g3, N3, r3⟩ := ev_agrees (dp := 1) ok Bs hk
      have wk := wl k (by omega)
      rw [show s 119 1 = nI (zT_m Z.1.1) from Bs.1.2.1, if_neg (nI_ge hk (by omega)), r3, nI_1] at hst
      simp only [Option.bind_some] at hst
      show ∃ s', zN g s' ∧ _ = zv_m zt_X9_which (zv_ev 10) false 9 [some (.ref 116), some (.int (nI (za_ws Z.1.1 Z.1.2.1 Z.2.2.2.2.1 k ||| (if za_wh Z.1.1 Z.1.2.1 Z.2.2.2.2.1 k = true then 2 ^ k else 0)))), some (.int (nI (k + 1)))] [] zS0 (s', h)
      by_cases hq : za_wh Z.1.1 Z.1.2.1 Z.2.2.2.2.1 k = true
      · rw [if_pos hq, if_neg (by decide), zi_sh (by omega), zi_or (by omega) (by have := z2k (show k < 4 by omega); omega)] at hst
        rw [if_pos hq]
        exact ⟨g3, zN_trans Ns N3, hst⟩
      · rw [if_neg hq, if_pos rfl, show (0 : Int32) = nI 0 from rfl, zi_or (by omega) (by decide)] at hst
        rw [if_neg hq]
        exact ⟨g3, zN_trans Ns N3, hst⟩) (zv_w g 116 0 0) (zN_0 g)
    have e2 := zd_X9_which_9 (zv_ev 10) g2 h (nI (za_ws Z.1.1 Z.1.2.1 Z.2.2.2.2.1 (zT_m Z.1.1))) (nI (zT_m Z.1.1))
    rw [show g2 119 1 = nI (zT_m Z.1.1) from (zBM_q hB N2).1.2.1, if_pos (nI_le (Nat.le_refl _) (by omega))] at e2
    exact ⟨g2, N2, zs_X9_which ((zd_X9_which (zv_ev 10) g h).trans (q2.trans e2))⟩
