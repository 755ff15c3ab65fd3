/-! ===== rows that read and write cells ===== -/
section ZH
variable {p : Program} {l : Launch} {e : Env} {R : Room} {s : State} {m : MethodId} {args : Array Value} {below : List Frame} {meth : Method} {c : Code} {Q : State → Prop}
variable {cc : ByteArray} {nL on : Nat} {ini : Bool} {b : Nat} {x : Nat → Nat} {cA : Nat → ClassId} {dD : va_G} {xs : Nat × (Nat → Int32)} {d n0 sl0 : Nat} {o : zv_O}
variable {pc pc' : Nat} {lv lv' : zv_L} {st st' : List Value} {S S' : zv_S} {D D' : zv_D}
theorem zv_ad_in {q : Nat} (hw : zv_wf S) (h : (S.2.2.1 q).1 < 14) : q < S.1 ∧ zv_ad b x q = b + q := by
  have hq := hw.2.1 q h
  refine ⟨hq, ?_⟩
  unfold zv_ad
  rw [if_pos (Nat.lt_of_lt_of_le hq hw.1)]
theorem zv_blt {a n : Nat} (h : a < n) : Nat.blt a n = true := by simp [h]
theorem zv_in_of {i : Int32} {n : Nat} (h : zv_in i n = true) : vp_in i n := by
  unfold zv_in at h
  simp only [Bool.and_eq_true, Bool.not_eq_true', decide_eq_false_iff_not] at h
  have h2 : i.toNatClampNeg < n := by simpa using h.2
  intro q
  rcases q with q | q
  · exact h.1 q
  · omega
theorem zn_ft9 : ∀ ci, ci < 10 → ∀ k, k < zn_nf ci → zn_ft ci k ≠ 9 := by decide +kernel
theorem zq_getf (hC : zv_C p R s m args meth c cc nL on ini b x cA dD xs d n0 sl0 o) {i ci kf ft : Nat} (hci : ci < 10) (hkf : kf < zn_nf ci) (hft : zn_ft ci kf = ft) (hl : Cond.fieldLink (zn_own on) i (zn_own ci) (zn_T ci kf).2.1 (zn_T ci kf).2.2.1 ∈ zgw) (hd : decode cc pc = .ok (.getfield i, 3)) {k : zv_K} (hk : ∀ pc lv st S D, k pc lv st S D = some o → zv_G p l e R s m args below meth c Q nL b x cA dD n0 sl0 o pc lv st S D)
    (h : zv_a1 st (fun q r => bif Nat.beq (S.2.2.1 q).1 ci then (bif Nat.beq ft 0 then k (pc + 3) lv (.int (D.1 q kf) :: r) S D else bif Nat.beq ft 1 then k (pc + 3) lv (.long (D.2 q kf) :: r) S D else (S.2.2.2 q kf).bind fun a => k (pc + 3) lv (.ref a :: r) S D) else none) = some o) : zv_G p l e R s m args below meth c Q nL b x cA dD n0 sl0 o pc lv st S D := by
  unfold zv_a1 at h; split at h
  · rename_i q r
    dsimp only at h
    cases hq : Nat.beq (S.2.2.1 q).1 ci with
    | false => rw [hq] at h; cases h
    | true =>
      rw [hq] at h
      have hq' : (S.2.2.1 q).1 = ci := Nat.eq_of_beq_eq_true hq
      have key : ∀ v, zv_fv b x S D q kf ft = zv_vl b x v → zv_G p l e R s m args below meth c Q nL b x cA dD n0 sl0 o (pc + 3) lv (v :: r) S D → zv_G p l e R s m args below meth c Q nL b x cA dD n0 sl0 o pc lv (.ref q :: r) S D := by
        intro v hv hg
        refine zq_rd (fun H locs cells slots ls hH hS w => ?_) hg
        obtain ⟨hlt, had⟩ := zv_ad_in (b := b) (x := x) hH.1 (by rw [hq']; omega : (S.2.2.1 q).1 < 14)
        show W p l e R s m args below meth c H locs cells slots Q (F0 m pc ls (.ref (zv_ad b x q) :: r.map (zv_vl b x)))
        rw [had]
        exact va_get (D := dD) (ci := ci) (v := zv_vl b x v) (C := zn_own ci) (T := zn_T ci) (N := zn_nf ci) hC.1 hC.2.1 hC.2.2.2.2.1 (zn_words hci) hC.2.2.2.1 hC.2.2.2.2.2.1.1 hH.2 q ((zv_ws_at b x cA S D hlt).trans (by rw [zv_ce_o b x cA S D hq' hci])) (zn_cls hci) kf hkf (hC.2.2.2.2.1 _ hl) (fun y hy => by rw [zn_decl ci hci kf hkf] at hy; exact hy) ((zv_fs_at b x S D q ci hkf).trans (by rw [hft, hv])) hd w
      cases h0 : Nat.beq ft 0 with
      | true =>
        rw [h0] at h
        exact key _ (by unfold zv_fv; rw [h0]; rfl) (hk _ _ _ _ _ h)
      | false =>
        rw [h0] at h
        cases h1 : Nat.beq ft 1 with
        | true =>
          rw [h1] at h
          exact key _ (by unfold zv_fv; rw [h0, h1]; rfl) (hk _ _ _ _ _ h)
        | false =>
          rw [h1] at h
          cases hr : S.2.2.2 q kf with
          | none => rw [hr] at h; cases h
          | some a =>
            rw [hr] at h
            exact key (.ref a) (by unfold zv_fv; rw [h0, h1, hr]; rfl) (hk _ _ _ _ _ h)
  · cases h
theorem zq_putf (hC : zv_C p R s m args meth c cc nL on ini b x cA dD xs d n0 sl0 o) {i ci kf ft : Nat} (hci : ci < 10) (hkf : kf < zn_nf ci) (hft : zn_ft ci kf = ft) (hl : Cond.fieldLink (zn_own on) i (zn_own ci) (zn_T ci kf).2.1 (zn_T ci kf).2.2.1 ∈ zgw) (hf1 : ft < 2 → (zn_T ci kf).2.2.2 = false) (hf2 : ¬ ft < 2 → (zn_T ci kf).2.2.2 = true ∧ ini = true ∧ on = ci) (hd : decode cc pc = .ok (.putfield i, 3)) {k : zv_K} (hk : ∀ pc lv st S D, k pc lv st S D = some o → zv_G p l e R s m args below meth c Q nL b x cA dD n0 sl0 o pc lv st S D) {al : Bool}
    (h : (bif Nat.beq ft 0 then zv_i1 st fun v r => zv_a1 r fun q r => bif Nat.beq (S.2.2.1 q).1 ci then k (pc + 3) lv r S (zv_w D.1 q kf v, D.2) else none
      else bif Nat.beq ft 1 then zv_l1 st fun v r => zv_a1 r fun q r => bif Nat.beq (S.2.2.1 q).1 ci then k (pc + 3) lv r S (D.1, zv_wl D.2 q kf v) else none
      else bif al then zv_a1 st fun a r => zv_a1 r fun q r => bif Nat.beq (S.2.2.1 q).1 ci then k (pc + 3) lv r (zv_rw S q kf a) D else none
      else none) = some o) : zv_G p l e R s m args below meth c Q nL b x cA dD n0 sl0 o pc lv st S D := by
  cases h0 : Nat.beq ft 0 with
  | true =>
    rw [h0] at h
    replace h : zv_i1 st (fun v r => zv_a1 r fun q r => bif Nat.beq (S.2.2.1 q).1 ci then k (pc + 3) lv r S (zv_w D.1 q kf v, D.2) else none) = some o := h
    have hf0 : ft = 0 := Nat.eq_of_beq_eq_true h0
    unfold zv_i1 at h; split at h
    · dsimp only at h; unfold zv_a1 at h; split at h
      · rename_i v _ q r
        dsimp only at h
        cases hq : Nat.beq (S.2.2.1 q).1 ci with
        | false => rw [hq] at h; cases h
        | true =>
          rw [hq] at h
          have hq' : (S.2.2.1 q).1 = ci := Nat.eq_of_beq_eq_true hq
          have hty : zn_ty ci kf = .int := by
            have := zn_tys ci hci kf hkf
            rw [hft, hf0] at this
            revert this
            cases zn_ty ci kf <;> intro hh <;> first | rfl | cases hh
          refine zq_wr (S' := S) (D' := (zv_w D.1 q kf v, D.2)) rfl rfl (fun H locs cells slots ls hH hS hl2 w => ?_) (hk _ _ _ _ _ h)
          obtain ⟨hlt, had⟩ := zv_ad_in (b := b) (x := x) hH.1 (by rw [hq']; omega : (S.2.2.1 q).1 < 14)
          show W p l e R s m args below meth c H locs cells slots Q (F0 m pc ls (.int v :: .ref (zv_ad b x q) :: r.map (zv_vl b x)))
          rw [had]
          refine va_put (D := dD) (A := fun q => b ≤ q) (H0 := s.heap) (ci := ci) (v := .int v) (ty := .int) (C := zn_own ci) (T := zn_T ci) (N := zn_nf ci) hC.1 hC.2.1 hC.2.2.2.2.1 (zn_words hci) (zn_ty ci) (zn_parse hci) (zn_diff hci) hC.2.2.2.1 hC.2.2.2.2.2.1.1 hH.2 (zv_ws_D b x cA S D) hS q ((zv_ws_at b x cA S D hlt).trans (by rw [zv_ce_o b x cA S D hq' hci])) (zn_cls hci) kf hkf (hC.2.2.2.2.1 _ hl) (fun y hy => by rw [zn_decl ci hci kf hkf] at hy; exact hy) (hf1 (by omega)) (by rw [zn_parse hci kf hkf, hty]) rfl rfl (by rw [zv_fs_len]; exact hkf) hd (fun H1 locs1 hP1 hD1 hS1 => w H1 locs1 ⟨hH.1, ?_⟩ hS1)
          rw [zv_ws_set b x cA S S D (zv_w D.1 q kf v, D.2) rfl hlt (by
            rw [zv_ce_o b x cA S _ hq' hci, zv_fs_set b x S S D (zv_w D.1 q kf v, D.2) q ci hkf (v := .int v)]
            · rw [hft]; unfold zv_fv; rw [h0]; simp [zv_w, upd]
            · intro j hj
              unfold zv_fv
              simp [zv_w, upd, hj]) (fun j hj => zv_ce_congr b x cA rfl rfl (by simp [zv_w, hj]) rfl)] at hP1
          exact hP1
      · cases h
    · cases h
  | false =>
    rw [h0] at h
    cases h1 : Nat.beq ft 1 with
    | true =>
      rw [h1] at h
      replace h : zv_l1 st (fun v r => zv_a1 r fun q r => bif Nat.beq (S.2.2.1 q).1 ci then k (pc + 3) lv r S (D.1, zv_wl D.2 q kf v) else none) = some o := h
      have hf0 : ft = 1 := Nat.eq_of_beq_eq_true h1
      unfold zv_l1 at h; split at h
      · dsimp only at h; unfold zv_a1 at h; split at h
        · rename_i v _ q r
          dsimp only at h
          cases hq : Nat.beq (S.2.2.1 q).1 ci with
          | false => rw [hq] at h; cases h
          | true =>
            rw [hq] at h
            have hq' : (S.2.2.1 q).1 = ci := Nat.eq_of_beq_eq_true hq
            have hty : zn_ty ci kf = .long := by
              have := zn_tys ci hci kf hkf
              rw [hft, hf0] at this
              revert this
              cases zn_ty ci kf <;> intro hh <;> first | rfl | cases hh
            refine zq_wr (S' := S) (D' := (D.1, zv_wl D.2 q kf v)) rfl rfl (fun H locs cells slots ls hH hS hl2 w => ?_) (hk _ _ _ _ _ h)
            obtain ⟨hlt, had⟩ := zv_ad_in (b := b) (x := x) hH.1 (by rw [hq']; omega : (S.2.2.1 q).1 < 14)
            show W p l e R s m args below meth c H locs cells slots Q (F0 m pc ls (.long v :: .ref (zv_ad b x q) :: r.map (zv_vl b x)))
            rw [had]
            refine va_put (D := dD) (A := fun q => b ≤ q) (H0 := s.heap) (ci := ci) (v := .long v) (ty := .long) (C := zn_own ci) (T := zn_T ci) (N := zn_nf ci) hC.1 hC.2.1 hC.2.2.2.2.1 (zn_words hci) (zn_ty ci) (zn_parse hci) (zn_diff hci) hC.2.2.2.1 hC.2.2.2.2.2.1.1 hH.2 (zv_ws_D b x cA S D) hS q ((zv_ws_at b x cA S D hlt).trans (by rw [zv_ce_o b x cA S D hq' hci])) (zn_cls hci) kf hkf (hC.2.2.2.2.1 _ hl) (fun y hy => by rw [zn_decl ci hci kf hkf] at hy; exact hy) (hf1 (by omega)) (by rw [zn_parse hci kf hkf, hty]) rfl rfl (by rw [zv_fs_len]; exact hkf) hd (fun H1 locs1 hP1 hD1 hS1 => w H1 locs1 ⟨hH.1, ?_⟩ hS1)
            rw [zv_ws_set b x cA S S D (D.1, zv_wl D.2 q kf v) rfl hlt (by
              rw [zv_ce_o b x cA S _ hq' hci, zv_fs_set b x S S D (D.1, zv_wl D.2 q kf v) q ci hkf (v := .long v)]
              · rw [hft]; unfold zv_fv; rw [h0, h1]; simp [zv_wl, vp_updL]
              · intro j hj
                unfold zv_fv
                simp [zv_wl, vp_updL, hj]) (fun j hj => zv_ce_congr b x cA rfl rfl rfl (by simp [zv_wl, hj]))] at hP1
            exact hP1
        · cases h
      · cases h
    | false =>
      rw [h1] at h
      cases al with
      | false => cases h
      | true =>
        replace h : zv_a1 st (fun a r => zv_a1 r fun q r => bif Nat.beq (S.2.2.1 q).1 ci then k (pc + 3) lv r (zv_rw S q kf a) D else none) = some o := h
        have hge : ¬ ft < 2 := by
          intro hlt2
          have : ft = 0 ∨ ft = 1 := by omega
          rcases this with z | z
          · rw [z] at h0; cases h0
          · rw [z] at h1; cases h1
        obtain ⟨f1, f2, f3⟩ := hf2 hge
        unfold zv_a1 at h; split at h
        · dsimp only at h; split at h
          · rename_i a _ q r
            try dsimp only at h
            cases hq : Nat.beq (S.2.2.1 q).1 ci with
            | false => rw [hq] at h; cases h
            | true =>
              rw [hq] at h
              have hq' : (S.2.2.1 q).1 = ci := Nat.eq_of_beq_eq_true hq
              have hty : ((∃ n, zn_ty ci kf = .object n) ∨ ∃ t, zn_ty ci kf = .array t) := by
                have := zn_tys ci hci kf hkf
                have hz : ¬ zn_tyc (zn_ty ci kf) < 2 := by rw [this, hft]; exact hge
                have h9 : zn_tyc (zn_ty ci kf) ≠ 9 := by rw [this]; exact (zn_ft9 ci hci kf hkf)
                revert hz h9
                cases zn_ty ci kf with
                | object n => exact fun _ _ => Or.inl ⟨n, rfl⟩
                | array t => exact fun _ _ => Or.inr ⟨t, rfl⟩
                | int => exact fun hz _ => absurd (by decide) hz
                | long => exact fun hz _ => absurd (by decide) hz
                | _ => exact fun _ h9 => absurd rfl h9
              refine zq_wr (S' := zv_rw S q kf a) (D' := D) rfl rfl (fun H locs cells slots ls hH hS hl2 w => ?_) (hk _ _ _ _ _ h)
              obtain ⟨hlt, had⟩ := zv_ad_in (b := b) (x := x) hH.1 (by rw [hq']; omega : (S.2.2.1 q).1 < 14)
              show W p l e R s m args below meth c H locs cells slots Q (F0 m pc ls (.ref (zv_ad b x a) :: .ref (zv_ad b x q) :: r.map (zv_vl b x)))
              rw [had]
              refine va_putF (D := dD) (A := fun q => b ≤ q) (H0 := s.heap) (ci := ci) (v := .ref (zv_ad b x a)) (ty := zn_ty ci kf) (C := zn_own ci) (T := zn_T ci) (N := zn_nf ci) hC.1 hC.2.1 hC.2.2.2.2.1 (zn_words hci) (zn_ty ci) (zn_parse hci) (zn_diff hci) hC.2.2.2.1 hC.2.2.2.2.2.1.1 hH.2 (zv_ws_D b x cA S D) hS q ((zv_ws_at b x cA S D hlt).trans (by rw [zv_ce_o b x cA S D hq' hci])) (zn_cls hci) kf hkf (hC.2.2.2.2.1 _ hl) (fun y hy => by rw [zn_decl ci hci kf hkf] at hy; exact hy) f1 (hC.2.2.2.2.2.2.2.1 f2) (by rw [zn_decl ci hci kf hkf, f3]) (zn_parse hci kf hkf) (by rcases hty with ⟨n, e⟩ | ⟨t, e⟩ <;> rw [e] <;> rfl) (by rcases hty with ⟨n, e⟩ | ⟨t, e⟩ <;> rw [e] <;> rfl) (by rw [zv_fs_len]; exact hkf) hd (fun H1 locs1 hP1 hD1 hS1 => w H1 locs1 ⟨hH.1, ?_⟩ hS1)
              rw [zv_ws_set b x cA S (zv_rw S q kf a) D D rfl hlt (by
                rw [zv_ce_o b x cA (zv_rw S q kf a) _ hq' hci, zv_fs_set b x S (zv_rw S q kf a) D D q ci hkf (v := .ref (zv_ad b x a))]
                · rw [hft]; unfold zv_fv; rw [h0, h1]; simp [zv_rw, va_rf]
                · intro j hj
                  unfold zv_fv
                  simp [zv_rw, hj]) (fun j hj => zv_ce_congr b x cA rfl (by simp [zv_rw, hj]) rfl rfl)] at hP1
              exact hP1
          · cases h
        · cases h
theorem zq_iald (hC : zv_C p R s m args meth c cc nL on ini b x cA dD xs d n0 sl0 o) (hd : decode cc pc = .ok (.iaload, 1)) {k : zv_K} (hk : ∀ pc lv st S D, k pc lv st S D = some o → zv_G p l e R s m args below meth c Q nL b x cA dD n0 sl0 o pc lv st S D) {i : Int32} {a : Nat} {r : List Value} (hq : (S.2.2.1 a).1 = 11) (hi : zv_in i (S.2.2.1 a).2 = true) (h : k (pc + 1) lv (.int (D.1 a i.toNatClampNeg) :: r) S D = some o) : zv_G p l e R s m args below meth c Q nL b x cA dD n0 sl0 o pc lv (.int i :: .ref a :: r) S D := by
  refine zq_rd (fun H locs cells slots ls hH hS w => ?_) (hk _ _ _ _ _ h)
  obtain ⟨hlt, had⟩ := zv_ad_in (b := b) (x := x) hH.1 (by rw [hq]; decide : (S.2.2.1 a).1 < 14)
  show W p l e R s m args below meth c H locs cells slots Q (F0 m pc ls (.int i :: .ref (zv_ad b x a) :: r.map (zv_vl b x)))
  rw [had]
  exact va_iald hC.1 hC.2.1 hC.2.2.2.2.2.1.1 hH.2 a 1 ((zv_ws_at b x cA S D hlt).trans (by rw [zv_ce_a b x cA S D hq rfl rfl])) rfl (zv_in_of hi) hd w
theorem zq_cald (hC : zv_C p R s m args meth c cc nL on ini b x cA dD xs d n0 sl0 o) (hd : decode cc pc = .ok (.caload, 1)) {k : zv_K} (hk : ∀ pc lv st S D, k pc lv st S D = some o → zv_G p l e R s m args below meth c Q nL b x cA dD n0 sl0 o pc lv st S D) {i : Int32} {a : Nat} {r : List Value} (hq : (S.2.2.1 a).1 = 10) (hi : zv_in i (S.2.2.1 a).2 = true) (h : k (pc + 1) lv (.int (D.1 a i.toNatClampNeg) :: r) S D = some o) : zv_G p l e R s m args below meth c Q nL b x cA dD n0 sl0 o pc lv (.int i :: .ref a :: r) S D := by
  refine zq_rd (fun H locs cells slots ls hH hS w => ?_) (hk _ _ _ _ _ h)
  obtain ⟨hlt, had⟩ := zv_ad_in (b := b) (x := x) hH.1 (by rw [hq]; decide : (S.2.2.1 a).1 < 14)
  show W p l e R s m args below meth c H locs cells slots Q (F0 m pc ls (.int i :: .ref (zv_ad b x a) :: r.map (zv_vl b x)))
  rw [had]
  exact va_cald hC.1 hC.2.1 hC.2.2.2.2.2.1.1 hH.2 a 0 ((zv_ws_at b x cA S D hlt).trans (by rw [zv_ce_a b x cA S D hq rfl rfl])) rfl (zv_in_of hi) hd w
theorem zq_bald (hC : zv_C p R s m args meth c cc nL on ini b x cA dD xs d n0 sl0 o) (hd : decode cc pc = .ok (.baload, 1)) {k : zv_K} (hk : ∀ pc lv st S D, k pc lv st S D = some o → zv_G p l e R s m args below meth c Q nL b x cA dD n0 sl0 o pc lv st S D) {i : Int32} {a : Nat} {r : List Value} (hq : (S.2.2.1 a).1 = 12) (hi : zv_in i (S.2.2.1 a).2 = true) (h : k (pc + 1) lv (.int (D.1 a i.toNatClampNeg) :: r) S D = some o) : zv_G p l e R s m args below meth c Q nL b x cA dD n0 sl0 o pc lv (.int i :: .ref a :: r) S D := by
  refine zq_rd (fun H locs cells slots ls hH hS w => ?_) (hk _ _ _ _ _ h)
  obtain ⟨hlt, had⟩ := zv_ad_in (b := b) (x := x) hH.1 (by rw [hq]; decide : (S.2.2.1 a).1 < 14)
  show W p l e R s m args below meth c H locs cells slots Q (F0 m pc ls (.int i :: .ref (zv_ad b x a) :: r.map (zv_vl b x)))
  rw [had]
  exact va_zald hC.1 hC.2.1 hC.2.2.2.2.2.1.1 hH.2 a 2 ((zv_ws_at b x cA S D hlt).trans (by rw [zv_ce_a b x cA S D hq rfl rfl])) rfl (zv_in_of hi) hd w
theorem zq_aald (hC : zv_C p R s m args meth c cc nL on ini b x cA dD xs d n0 sl0 o) (hd : decode cc pc = .ok (.aaload, 1)) {k : zv_K} (hk : ∀ pc lv st S D, k pc lv st S D = some o → zv_G p l e R s m args below meth c Q nL b x cA dD n0 sl0 o pc lv st S D) {i : Int32} {a a2 : Nat} {r : List Value} (hq : (S.2.2.1 a).1 = 13) (hi : zv_in i (S.2.2.1 a).2 = true) (hr : S.2.2.2 a i.toNatClampNeg = some a2) (h : k (pc + 1) lv (.ref a2 :: r) S D = some o) : zv_G p l e R s m args below meth c Q nL b x cA dD n0 sl0 o pc lv (.int i :: .ref a :: r) S D := by
  refine zq_rd (fun H locs cells slots ls hH hS w => ?_) (hk _ _ _ _ _ h)
  obtain ⟨hlt, had⟩ := zv_ad_in (b := b) (x := x) hH.1 (by rw [hq]; decide : (S.2.2.1 a).1 < 14)
  show W p l e R s m args below meth c H locs cells slots Q (F0 m pc ls (.int i :: .ref (zv_ad b x a) :: r.map (zv_vl b x)))
  rw [had]
  refine va_aldq hC.1 hC.2.1 hC.2.2.2.2.2.1.1 hH.2 a 3 ((zv_ws_at b x cA S D hlt).trans (by rw [zv_ce_q b x cA S D hq])) rfl (zv_in_of hi) hd ?_
  rw [hr]
  exact w
theorem zq_sald (hC : zv_C p R s m args meth c cc nL on ini b x cA dD xs d n0 sl0 o) (hd : decode cc pc = .ok (.iaload, 1)) {k : zv_K} (hk : ∀ pc lv st S D, k pc lv st S D = some o → zv_G p l e R s m args below meth c Q nL b x cA dD n0 sl0 o pc lv st S D) {i : Int32} {a : Nat} {r : List Value} (hq : (S.2.2.1 a).1 = 21) (hi : zv_in i xs.1 = true) (h : k (pc + 1) lv (.int (xs.2 i.toNatClampNeg) :: r) S D = some o) : zv_G p l e R s m args below meth c Q nL b x cA dD n0 sl0 o pc lv (.int i :: .ref a :: r) S D := by
  refine zq_rd (fun H locs cells slots ls hH hS w => ?_) (hk _ _ _ _ _ h)
  have ha := hH.1.2.2.1 a hq
  subst ha
  show W p l e R s m args below meth c H locs cells slots Q (F0 m pc ls (.int i :: .ref (x 1000000) :: r.map (zv_vl b x)))
  have hxb := hC.2.2.2.2.2.1.2.2.2.2.2.2.1
  exact va_sld hC.1 hC.2.1 hC.2.2.2.2.2.1.2.2.2.2.2.1 (by have := hC.2.2.2.2.2.2.1; omega) (by show ¬ b ≤ _; omega) hS (zv_in_of hi) hd w
theorem zq_fald (hC : zv_C p R s m args meth c cc nL on ini b x cA dD xs d n0 sl0 o) (hd : decode cc pc = .ok (.iaload, 1)) {k : zv_K} (hk : ∀ pc lv st S D, k pc lv st S D = some o → zv_G p l e R s m args below meth c Q nL b x cA dD n0 sl0 o pc lv st S D) {i : Int32} {a : Nat} {r : List Value} (hq : (S.2.2.1 a).1 = 22) (hi : zv_in i 5 = true) (h : k (pc + 1) lv (.int (zv_fa i.toNatClampNeg) :: r) S D = some o) : zv_G p l e R s m args below meth c Q nL b x cA dD n0 sl0 o pc lv (.int i :: .ref a :: r) S D := by
  refine zq_rd (fun H locs cells slots ls hH hS w => ?_) (hk _ _ _ _ _ h)
  have ha := hH.1.2.2.2.1 a hq
  subst ha
  show W p l e R s m args below meth c H locs cells slots Q (F0 m pc ls (.int i :: .ref (x 1000002) :: r.map (zv_vl b x)))
  exact va_ti hC.1 hC.2.1 hC.2.2.2.2.2.1.2.2.2.2.1 hS (zv_in_of hi) rfl hd w
theorem zq_lald (hC : zv_C p R s m args meth c cc nL on ini b x cA dD xs d n0 sl0 o) (hd : decode cc pc = .ok (.laload, 1)) {k : zv_K} (hk : ∀ pc lv st S D, k pc lv st S D = some o → zv_G p l e R s m args below meth c Q nL b x cA dD n0 sl0 o pc lv st S D) {i : Int32} {a : Nat} {r : List Value} (hq : (S.2.2.1 a).1 = 24) (hi : zv_in i 5 = true) (h : k (pc + 1) lv (.long (zv_un i.toNatClampNeg) :: r) S D = some o) : zv_G p l e R s m args below meth c Q nL b x cA dD n0 sl0 o pc lv (.int i :: .ref a :: r) S D := by
  refine zq_rd (fun H locs cells slots ls hH hS w => ?_) (hk _ _ _ _ _ h)
  have ha := hH.1.2.2.2.2 a hq
  subst ha
  show W p l e R s m args below meth c H locs cells slots Q (F0 m pc ls (.int i :: .ref (x 1000001) :: r.map (zv_vl b x)))
  exact va_tl hC.1 hC.2.1 hC.2.2.2.2.2.1.2.2.1 hS (zv_in_of hi) rfl hd w
theorem zq_gets (hC : zv_C p R s m args meth c cc nL on ini b x cA dD xs d n0 sl0 o) {i q : Nat} (hl : (q = 1000001 ∧ Cond.fieldLink (zn_own on) i "HiddenExits" "UNITS" "[J" ∈ zgw) ∨ (q = 1000002 ∧ Cond.fieldLink (zn_own on) i "HiddenExits" "FACTORIALS" "[I" ∈ zgw)) (hd : decode cc pc = .ok (.getstatic i, 3)) {k : zv_K} (hk : ∀ pc lv st S D, k pc lv st S D = some o → zv_G p l e R s m args below meth c Q nL b x cA dD n0 sl0 o pc lv st S D) (h : k (pc + 3) lv (.ref q :: st) S D = some o) : zv_G p l e R s m args below meth c Q nL b x cA dD n0 sl0 o pc lv st S D := by
  refine zq_rd (fun H locs cells slots ls hH hS w => ?_) (hk _ _ _ _ _ h)
  rcases hl with ⟨rfl, hl⟩ | ⟨rfl, hl⟩
  · exact va_gets hC.1 hC.2.1 hC.2.2.2.2.2.1.2.1 hS hC.2.2.2.1 (hC.2.2.2.2.1 _ hl) (fun _ q => q) hd w
  · exact va_gets hC.1 hC.2.1 hC.2.2.2.2.2.1.2.2.2.1 hS hC.2.2.2.1 (hC.2.2.2.2.1 _ hl) (fun _ q => q) hd w
theorem zq_iast (hC : zv_C p R s m args meth c cc nL on ini b x cA dD xs d n0 sl0 o) (hd : decode cc pc = .ok (.iastore, 1)) {k : zv_K} (hk : ∀ pc lv st S D, k pc lv st S D = some o → zv_G p l e R s m args below meth c Q nL b x cA dD n0 sl0 o pc lv st S D) {v i : Int32} {a : Nat} {r : List Value} (hq : (S.2.2.1 a).1 = 11) (hi : zv_in i (S.2.2.1 a).2 = true) (h : k (pc + 1) lv r S (zv_w D.1 a i.toNatClampNeg v, D.2) = some o) : zv_G p l e R s m args below meth c Q nL b x cA dD n0 sl0 o pc lv (.int v :: .int i :: .ref a :: r) S D := by
  refine zq_wr (S' := S) (D' := (zv_w D.1 a i.toNatClampNeg v, D.2)) rfl rfl (fun H locs cells slots ls hH hS hl2 w => ?_) (hk _ _ _ _ _ h)
  obtain ⟨hlt, had⟩ := zv_ad_in (b := b) (x := x) hH.1 (by rw [hq]; decide : (S.2.2.1 a).1 < 14)
  show W p l e R s m args below meth c H locs cells slots Q (F0 m pc ls (.int v :: .int i :: .ref (zv_ad b x a) :: r.map (zv_vl b x)))
  rw [had]
  refine va_iast (A := fun q => b ≤ q) (H0 := s.heap) hC.1 hC.2.1 hC.2.2.2.2.2.1.1 hH.2 (zv_ws_D b x cA S D) hS a 1 ((zv_ws_at b x cA S D hlt).trans (by rw [zv_ce_a b x cA S D hq rfl rfl])) rfl (zv_in_of hi) hd (fun H1 locs1 hP1 hD1 hS1 => w H1 locs1 ⟨hH.1, ?_⟩ hS1)
  rw [zv_ws_set b x cA S S D (zv_w D.1 a i.toNatClampNeg v, D.2) rfl hlt (by rw [zv_ce_a b x cA S _ hq rfl rfl]; simp [zv_w]) (fun j hj => zv_ce_congr b x cA rfl rfl (by simp [zv_w, hj]) rfl)] at hP1
  exact hP1
theorem zq_cast (hC : zv_C p R s m args meth c cc nL on ini b x cA dD xs d n0 sl0 o) (hd : decode cc pc = .ok (.castore, 1)) {k : zv_K} (hk : ∀ pc lv st S D, k pc lv st S D = some o → zv_G p l e R s m args below meth c Q nL b x cA dD n0 sl0 o pc lv st S D) {v i : Int32} {a : Nat} {r : List Value} (hq : (S.2.2.1 a).1 = 10) (hi : zv_in i (S.2.2.1 a).2 = true) (h : k (pc + 1) lv r S (zv_w D.1 a i.toNatClampNeg (vp_nar .char v), D.2) = some o) : zv_G p l e R s m args below meth c Q nL b x cA dD n0 sl0 o pc lv (.int v :: .int i :: .ref a :: r) S D := by
  refine zq_wr (S' := S) (D' := (zv_w D.1 a i.toNatClampNeg (vp_nar .char v), D.2)) rfl rfl (fun H locs cells slots ls hH hS hl2 w => ?_) (hk _ _ _ _ _ h)
  obtain ⟨hlt, had⟩ := zv_ad_in (b := b) (x := x) hH.1 (by rw [hq]; decide : (S.2.2.1 a).1 < 14)
  show W p l e R s m args below meth c H locs cells slots Q (F0 m pc ls (.int v :: .int i :: .ref (zv_ad b x a) :: r.map (zv_vl b x)))
  rw [had]
  refine va_cast (A := fun q => b ≤ q) (H0 := s.heap) hC.1 hC.2.1 hC.2.2.2.2.2.1.1 hH.2 (zv_ws_D b x cA S D) hS a 0 ((zv_ws_at b x cA S D hlt).trans (by rw [zv_ce_a b x cA S D hq rfl rfl])) rfl (zv_in_of hi) hd (fun H1 locs1 hP1 hD1 hS1 => w H1 locs1 ⟨hH.1, ?_⟩ hS1)
  rw [zv_ws_set b x cA S S D (zv_w D.1 a i.toNatClampNeg (vp_nar .char v), D.2) rfl hlt (by rw [zv_ce_a b x cA S _ hq rfl rfl]; simp [zv_w]) (fun j hj => zv_ce_congr b x cA rfl rfl (by simp [zv_w, hj]) rfl)] at hP1
  exact hP1
theorem zq_bast (hC : zv_C p R s m args meth c cc nL on ini b x cA dD xs d n0 sl0 o) (hd : decode cc pc = .ok (.bastore, 1)) {k : zv_K} (hk : ∀ pc lv st S D, k pc lv st S D = some o → zv_G p l e R s m args below meth c Q nL b x cA dD n0 sl0 o pc lv st S D) {v i : Int32} {a : Nat} {r : List Value} (hq : (S.2.2.1 a).1 = 12) (hi : zv_in i (S.2.2.1 a).2 = true) (h : k (pc + 1) lv r S (zv_w D.1 a i.toNatClampNeg (vp_nar .boolean v), D.2) = some o) : zv_G p l e R s m args below meth c Q nL b x cA dD n0 sl0 o pc lv (.int v :: .int i :: .ref a :: r) S D := by
  refine zq_wr (S' := S) (D' := (zv_w D.1 a i.toNatClampNeg (vp_nar .boolean v), D.2)) rfl rfl (fun H locs cells slots ls hH hS hl2 w => ?_) (hk _ _ _ _ _ h)
  obtain ⟨hlt, had⟩ := zv_ad_in (b := b) (x := x) hH.1 (by rw [hq]; decide : (S.2.2.1 a).1 < 14)
  show W p l e R s m args below meth c H locs cells slots Q (F0 m pc ls (.int v :: .int i :: .ref (zv_ad b x a) :: r.map (zv_vl b x)))
  rw [had]
  refine va_zast (A := fun q => b ≤ q) (H0 := s.heap) hC.1 hC.2.1 hC.2.2.2.2.2.1.1 hH.2 (zv_ws_D b x cA S D) hS a 2 ((zv_ws_at b x cA S D hlt).trans (by rw [zv_ce_a b x cA S D hq rfl rfl])) rfl (zv_in_of hi) hd (fun H1 locs1 hP1 hD1 hS1 => w H1 locs1 ⟨hH.1, ?_⟩ hS1)
  rw [zv_ws_set b x cA S S D (zv_w D.1 a i.toNatClampNeg (vp_nar .boolean v), D.2) rfl hlt (by rw [zv_ce_a b x cA S _ hq rfl rfl]; simp [zv_w]) (fun j hj => zv_ce_congr b x cA rfl rfl (by simp [zv_w, hj]) rfl)] at hP1
  exact hP1
theorem zq_alen (hC : zv_C p R s m args meth c cc nL on ini b x cA dD xs d n0 sl0 o) (hd : decode cc pc = .ok (.arraylength, 1)) {k : zv_K} (hk : ∀ pc lv st S D, k pc lv st S D = some o → zv_G p l e R s m args below meth c Q nL b x cA dD n0 sl0 o pc lv st S D) {a : Nat} {r : List Value} {al : Bool}
    (h : (bif Nat.beq (S.2.2.1 a).1 21 then (bif al then k (pc + 1) lv (.int (Int32.ofNat xs.1) :: r) S D else none) else bif Nat.beq (S.2.2.1 a).1 11 then k (pc + 1) lv (.int (Int32.ofNat (S.2.2.1 a).2) :: r) S D else bif Nat.beq (S.2.2.1 a).1 22 then k (pc + 1) lv (.int (Int32.ofNat 5) :: r) S D else none) = some o) : zv_G p l e R s m args below meth c Q nL b x cA dD n0 sl0 o pc lv (.ref a :: r) S D := by
  cases q21 : Nat.beq (S.2.2.1 a).1 21 with
  | true =>
    rw [q21] at h
    have hq : (S.2.2.1 a).1 = 21 := Nat.eq_of_beq_eq_true q21
    cases al with
    | false => cases h
    | true =>
      refine zq_rd (fun H locs cells slots ls hH hS w => ?_) (hk _ _ _ _ _ h)
      have ha := hH.1.2.2.1 a hq
      subst ha
      show W p l e R s m args below meth c H locs cells slots Q (F0 m pc ls (.ref (x 1000000) :: r.map (zv_vl b x)))
      have hxb := hC.2.2.2.2.2.1.2.2.2.2.2.2.1
      exact va_slen hC.1 hC.2.1 hC.2.2.2.2.2.1.2.2.2.2.2.1 (by have := hC.2.2.2.2.2.2.1; omega) (by show ¬ b ≤ _; omega) hS hd w
  | false =>
    rw [q21] at h
    cases q11 : Nat.beq (S.2.2.1 a).1 11 with
    | true =>
      rw [q11] at h
      have hq : (S.2.2.1 a).1 = 11 := Nat.eq_of_beq_eq_true q11
      refine zq_rd (fun H locs cells slots ls hH hS w => ?_) (hk _ _ _ _ _ h)
      obtain ⟨hlt, had⟩ := zv_ad_in (b := b) (x := x) hH.1 (by rw [hq]; decide : (S.2.2.1 a).1 < 14)
      show W p l e R s m args below meth c H locs cells slots Q (F0 m pc ls (.ref (zv_ad b x a) :: r.map (zv_vl b x)))
      rw [had]
      exact va_alen (x := ((S.2.2.1 a).2, .inl (D.1 a))) hC.1 hC.2.1 hC.2.2.2.2.2.1.1 hH.2 a 1 ((zv_ws_at b x cA S D hlt).trans (by rw [zv_ce_a b x cA S D hq rfl rfl])) rfl rfl hd w
    | false =>
      rw [q11] at h
      cases q22 : Nat.beq (S.2.2.1 a).1 22 with
      | true =>
        rw [q22] at h
        have hq : (S.2.2.1 a).1 = 22 := Nat.eq_of_beq_eq_true q22
        refine zq_rd (fun H locs cells slots ls hH hS w => ?_) (hk _ _ _ _ _ h)
        have ha := hH.1.2.2.2.1 a hq
        subst ha
        show W p l e R s m args below meth c H locs cells slots Q (F0 m pc ls (.ref (x 1000002) :: r.map (zv_vl b x)))
        obtain ⟨cell, q1, q2, q3, q4, q5, q6, q7⟩ := hC.2.2.2.2.2.1.2.2.2.2.1
        exact W.alen hC.1 hC.2.1 (by rw [hS.2.1 _ (Array.getElem?_eq_some_iff.mp q1).1 q7]; exact q1) q2 q5 rfl rfl hd w
      | false => rw [q22] at h; cases h
theorem zq_acp (hC : zv_C p R s m args meth c cc nL on ini b x cA dD xs d n0 sl0 o) {i : Nat} (hl : Cond.methodLink (zn_own on) i arraycopyName ∈ zgw) (hw : Cond.native arraycopyName ∈ zgw ∧ Cond.static arraycopyName ∈ zgw ∧ Cond.initialized "java/lang/System" ∈ zgw) (hd : decode cc pc = .ok (.invokestatic i, 3)) {k : zv_K} (hk : ∀ pc lv st S D, k pc lv st S D = some o → zv_G p l e R s m args below meth c Q nL b x cA dD n0 sl0 o pc lv st S D) (h : zv_acp st S D (fun r D' => k (pc + 3) lv r S D') = some o) : zv_G p l e R s m args below meth c Q nL b x cA dD n0 sl0 o pc lv st S D := by
  unfold zv_acp at h; split at h
  · rename_i n dp a sp a0 r
    dsimp only at h
    cases hb : (Nat.beq (S.2.2.1 a0).1 11 && (Nat.beq (S.2.2.1 a).1 11 && (Nat.ble (zv_cs r) 8 && zv_cok sp dp n (S.2.2.1 a0).2 (S.2.2.1 a).2))) with
    | false => rw [hb] at h; cases h
    | true =>
      rw [hb] at h
      simp only [Bool.and_eq_true] at hb
      obtain ⟨g1, g2, g3, g4⟩ := hb
      have g1 : (S.2.2.1 a0).1 = 11 := Nat.eq_of_beq_eq_true g1
      have g2 : (S.2.2.1 a).1 = 11 := Nat.eq_of_beq_eq_true g2
      have g3 : zv_cs r ≤ 8 := Nat.le_of_ble_eq_true g3
      unfold zv_cok at g4
      simp only [Bool.and_eq_true, Bool.not_eq_true', decide_eq_false_iff_not] at g4
      obtain ⟨c1, c2, c3, c4, c5⟩ := g4
      refine zq_wr (S' := S) (D' := (zv_cp D.1 a0 a sp.toNatClampNeg dp.toNatClampNeg n.toNatClampNeg, D.2)) rfl rfl (fun H locs cells slots ls hH hS hl2 w => ?_) (hk _ _ _ _ _ h)
      obtain ⟨hlt, had⟩ := zv_ad_in (b := b) (x := x) hH.1 (by rw [g2]; decide : (S.2.2.1 a).1 < 14)
      obtain ⟨hlt0, had0⟩ := zv_ad_in (b := b) (x := x) hH.1 (by rw [g1]; decide : (S.2.2.1 a0).1 < 14)
      show W p l e R s m args below meth c H locs cells slots Q (F0 m pc ls (.int n :: .int dp :: .ref (zv_ad b x a) :: .int sp :: .ref (zv_ad b x a0) :: r.map (zv_vl b x)))
      rw [had, had0]
      refine va_copyi (A := fun q => b ≤ q) (H0 := s.heap) (ty := .int) hC.1 hC.2.1 (by rw [hC.2.2.1]; exact hl2.1.symm) hC.2.2.2.1 (hC.2.2.2.2.1 _ hl) (hC.2.2.2.2.1 _ hw.1) (hC.2.2.2.2.1 _ hw.2.1) (hC.2.2.2.2.1 _ hw.2.2) hC.2.2.2.2.2.1.1 hH.2 (zv_ws_D b x cA S D) hS a0 a 1 1 ((zv_ws_at b x cA S D hlt0).trans (by rw [zv_ce_a b x cA S D g1 rfl rfl])) ((zv_ws_at b x cA S D hlt).trans (by rw [zv_ce_a b x cA S D g2 rfl rfl])) rfl rfl rfl c1 c2 c3 (Nat.le_of_ble_eq_true c4) (Nat.le_of_ble_eq_true c5) (fun _ _ => rfl) (by have := hC.2.2.2.2.2.2.2.2.1; omega) (by
        rw [zv_cs_sum, zv_cs_map]
        have := hC.2.2.2.2.2.2.2.2.2.1
        have e7 : nativeFrameWords "java/lang/System" "arraycopy" 5 = 7 := by decide +kernel
        omega) hd (fun H1 locs1 hP1 hD1 hS1 => w H1 locs1 ⟨hH.1, ?_⟩ hS1)
      rw [zv_ws_set b x cA S S D (zv_cp D.1 a0 a sp.toNatClampNeg dp.toNatClampNeg n.toNatClampNeg, D.2) rfl hlt (by rw [zv_ce_a b x cA S _ g2 rfl rfl]; simp [zv_cp]) (fun j hj => zv_ce_congr b x cA rfl rfl (by simp [zv_cp, hj]) rfl)] at hP1
      exact hP1
  · cases h
theorem zq_obj (hC : zv_C p R s m args meth c cc nL on ini b x cA dD xs d n0 sl0 o) {i : Nat} (hl : Cond.methodLink (zn_own on) i objectInit ∈ zgw) (hw : Cond.instanceMethod objectInit ∈ zgw ∧ Cond.code objectInit ⟨#[0xb1]⟩ 1 none ∈ zgw) (hd : decode cc pc = .ok (.invokespecial i, 3)) {k : zv_K} (hk : ∀ pc lv st S D, k pc lv st S D = some o → zv_G p l e R s m args below meth c Q nL b x cA dD n0 sl0 o pc lv st S D) (h : zv_a1 st (fun _ r => bif Nat.ble (zv_cs r) 8 then k (pc + 3) lv r S D else none) = some o) : zv_G p l e R s m args below meth c Q nL b x cA dD n0 sl0 o pc lv st S D := by
  unfold zv_a1 at h; split at h
  · rename_i q r
    dsimp only at h
    cases hb : Nat.ble (zv_cs r) 8 with
    | false => rw [hb] at h; cases h
    | true =>
      rw [hb] at h
      refine zq_step (fun H locs cells slots ls hl2 w => ?_) (hk _ _ _ _ _ h)
      have hb' : zv_cs r ≤ 8 := Nat.le_of_ble_eq_true hb
      refine W.objInit hC.1 hC.2.1 hC.2.2.2.1 (hC.2.2.2.2.1 _ hl) (hC.2.2.2.2.1 _ hw.1) (hC.2.2.2.2.1 _ hw.2) (a := zv_ad b x q) (rest := r.map (zv_vl b x)) rfl (by rw [hC.2.2.1]; exact hl2.1) rfl hd (by have := hC.2.2.2.2.2.2.2.2.1; omega) ?_ w
      rw [zv_cs_sum, zv_cs_map]
      show 2 * 0 + _ + 12 ≤ _
      have := hC.2.2.2.2.2.2.2.2.2.1
      omega
  · cases h
end ZH
