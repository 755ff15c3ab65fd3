/-! ===== rows that make cells; switches ===== -/
section ZA
variable {p : Program} {l : Launch} {e : Env} {R : Room} {s : State} {m : MethodId} {args : Array Value} {below : List Frame} {meth : Method} {c : Code} {Q : State → Prop}
variable {cc : ByteArray} {nL on : Nat} {ini : Bool} {b : Nat} {x : Nat → Nat} {cA : Nat → ClassId} {dD : va_G} {xs : Nat × (Nat → Int32)} {d n0 sl0 : Nat} {o : zv_O}
variable {pc pc' : Nat} {lv lv' : zv_L} {st st' : List Value} {S S' : zv_S} {D D' : zv_D}
/-- the heap is no larger than what was made -/
theorem zq_size {H : Heap} {locs : List Loc} {cells slots : Nat} {g : JFrame} (h : H.size ≤ s.heap.size + cells → W p l e R s m args below meth c H locs cells slots Q g) : W p l e R s m args below meth c H locs cells slots Q g := fun T hT X => h (by rw [← hT]; exact X.heapSize) T hT X
theorem zv_size {H : Heap} {locs : List Loc} (hH : zv_H b x cA dD S D H) (hS : va_S (fun q => b ≤ q) s.heap H locs) (hs : s.heap.size = b + n0) (hn : n0 ≤ S.1) (hle : H.size ≤ s.heap.size + (S.1 - n0)) : H.size = b + S.1 := by
  have h1 := hS.1
  by_cases h0 : S.1 = 0
  · omega
  · have h2 : b + (S.1 - 1) < H.size := (hH.2 (S.1 - 1) _ (zv_ws_at b x cA S D (by omega))).lt
    omega
theorem zv_wf_new {kd N : Nat} (hw : zv_wf S) (h1 : S.1 ≤ 100000) (hk : kd < 14) : zv_wf (zv_new S kd N) := by
  obtain ⟨w1, w2, w3, w4, w5⟩ := hw
  refine ⟨?_, fun q h => ?_, fun q h => ?_, fun q h => ?_, fun q h => ?_⟩
  · show S.1 + 1 ≤ 1000000
    omega
  · show q < S.1 + 1
    by_cases hq : q = S.1
    · omega
    · have : (S.2.2.1 q).1 < 14 := by simpa [zv_new, hq] using h
      have := w2 q this
      omega
  · by_cases hq : q = S.1
    · have h : kd = 21 := by simpa [zv_new, hq] using h
      omega
    · exact w3 q (by simpa [zv_new, hq] using h)
  · by_cases hq : q = S.1
    · have h : kd = 22 := by simpa [zv_new, hq] using h
      omega
    · exact w4 q (by simpa [zv_new, hq] using h)
  · by_cases hq : q = S.1
    · have h : kd = 24 := by simpa [zv_new, hq] using h
      omega
    · exact w5 q (by simpa [zv_new, hq] using h)
theorem zv_ws_new (kd N : Nat) : zv_ws b x cA (zv_new S kd N) (zv_zer S D) = zv_ws b x cA S D ++ [(b + S.1, zv_ce b x cA (zv_new S kd N) (zv_zer S D) S.1)] := by
  unfold zv_ws
  rw [show (zv_new S kd N).1 = S.1 + 1 from rfl, List.range_succ, List.map_append]
  congr 1
  apply List.map_congr_left
  intro q hq
  have hq' : q ≠ S.1 := Nat.ne_of_lt (List.mem_range.mp hq)
  rw [zv_ce_congr b x cA (S := S) (S' := zv_new S kd N) (D := D) (D' := zv_zer S D) (by simp [zv_new, hq']) (by simp [zv_new, hq']) (by simp [zv_zer, hq']) (by simp [zv_zer, hq'])]
theorem zq_al (hC : zv_C p R s m args meth c cc nL on ini b x cA dD xs d n0 sl0 o) {kd N : Nat} (hn1 : S.1 ≤ 100000) (hkd : kd < 14) (row : ∀ (H : Heap) (locs : List Loc) (cells slots : Nat) (ls : Array Slot), H.size = b + S.1 → cells + 1 ≤ R.cells → slots + N ≤ R.slots → (∀ H1 : Heap, va_at dD vwCl (b + S.1, zv_ce b x cA (zv_new S kd N) (zv_zer S D) S.1) H1 → (∀ q, q < b + S.1 → H1[q]? = H[q]?) → H1.size = b + S.1 + 1 → W p l e R s m args below meth c H1 locs (cells + 1) (slots + N) Q (F0 m pc' ls (st'.map (zv_vl b x)))) → W p l e R s m args below meth c H locs cells slots Q (F0 m pc ls (st.map (zv_vl b x))))
    (hg : zv_G p l e R s m args below meth c Q nL b x cA dD n0 sl0 o pc' lv st' (zv_new S kd N) (zv_zer S D)) : zv_G p l e R s m args below meth c Q nL b x cA dD n0 sl0 o pc lv st S D := by
  have e1 : (zv_new S kd N).1 = S.1 + 1 := rfl
  have e2 : (zv_new S kd N).2.1 = S.2.1 + N := rfl
  have hm := hg.1
  rw [e1, e2] at hm
  refine ⟨⟨by omega, by omega⟩, fun H locs ls h1 h2 h3 h4 h5 => zq_size fun hle => ?_⟩
  have hsz := zv_size h1 h4 hC.2.2.2.2.2.2.1 h2 hle
  have hRc := hC.2.2.2.2.2.2.2.2.2.2.1
  have hRs := hC.2.2.2.2.2.2.2.2.2.2.2
  refine row H locs _ _ ls hsz (by omega) (by omega) fun H1 q1 q2 q3 => ?_
  have hP1 : va_P dD vwCl (zv_ws b x cA (zv_new S kd N) (zv_zer S D)) H1 := by
    rw [zv_ws_new]
    refine va_P.app (h1.2.kept fun k y hy => q2 y.1 ?_) (fun k y hy => ?_)
    · have := (h1.2 k y hy).lt
      omega
    · match k, hy with
      | 0, hy => cases hy; exact q1
      | k + 1, hy => cases hy
  have := hg.2 H1 locs ls ⟨zv_wf_new h1.1 hn1 hkd, hP1⟩ (by omega) (by omega) ⟨by have := h4.1; omega, fun q g1 g2 => by
    have hq : q < b + S.1 := by
      have := h4.1
      omega
    rw [q2 q hq]
    exact h4.2.1 q g1 g2, h4.2.2⟩ h5
  rw [show (zv_new S kd N).1 - n0 = S.1 - n0 + 1 by omega, show (zv_new S kd N).2.1 - sl0 = S.2.1 - sl0 + N by omega] at this
  exact this
theorem zq_new (hC : zv_C p R s m args meth c cc nL on ini b x cA dD xs d n0 sl0 o) {i ci : Nat} (hci : ci < 10) (hl : Cond.classLink (zn_own on) i (zn_own ci) ∈ zgw) (hi : Cond.instantiable (zn_own ci) (zn_nf ci) ∈ zgw) (hin : Cond.initialized (zn_own ci) ∈ zgw) (hd : decode cc pc = .ok (.new i, 3)) {k : zv_K} (hk : ∀ pc lv st S D, k pc lv st S D = some o → zv_G p l e R s m args below meth c Q nL b x cA dD n0 sl0 o pc lv st S D) (hn1 : S.1 ≤ 100000) (h : k (pc + 3) lv (.ref S.1 :: st) (zv_new S ci (zn_nf ci)) (zv_zer S D) = some o) : zv_G p l e R s m args below meth c Q nL b x cA dD n0 sl0 o pc lv st S D := by
  refine zq_al hC hn1 (by omega) (fun H locs cells slots ls hsz hc1 hc2 w => ?_) (hk _ _ _ _ _ h)
  have hKn := hC.2.2.2.2.2.1.1.1 ci _ (zn_cls hci)
  refine W.newcK hC.1 hC.2.1 hC.2.2.2.1 (hC.2.2.2.2.1 _ hl) (hC.2.2.2.2.1 _ hi) (hC.2.2.2.2.1 _ hin) rfl hd hc1 hc2 hKn.2.1 hsz fun H1 kC hkC e1 z1 o1 => ?_
  have had : zv_ad b x S.1 = b + S.1 := by unfold zv_ad; rw [if_pos (by omega)]
  have := w H1 (by
    rw [zv_ce_o b x cA (zv_new S ci (zn_nf ci)) _ (ci := ci) (by simp [zv_new]) hci]
    refine ⟨_, zn_cls hci, (u_born (zn_ty ci) hC.2.2.2.2.1 (zn_words hci) hKn hkC e1 (zn_parse hci)).to fun j hj => ?_⟩
    have hj : j < zn_nf ci := hj
    show _ = (zv_fs b x (zv_new S ci (zn_nf ci)) (zv_zer S D) S.1 ci).getD j .null
    rw [List.getD_eq_getElem?_getD, zv_fs_at _ _ _ _ _ _ hj, Option.getD_some]
    have ht := zn_tys ci hci j hj
    have h9 := zn_ft9 ci hci j hj
    rw [← ht] at h9 ⊢
    unfold zv_fv
    revert h9
    cases zn_ty ci j <;> intro h9 <;> first | (exact absurd rfl h9) | (simp [zn_tyc, zv_zer, zv_new, defaultValue, va_rf] <;> rfl)) o1 z1
  rw [List.map_cons, show zv_vl b x (.ref S.1) = .ref (b + S.1) from congrArg Value.ref had] at this
  exact this
theorem zq_newa_int (hC : zv_C p R s m args meth c cc nL on ini b x cA dD xs d n0 sl0 o) (hw : Cond.arrayClass .int ∈ zgw) (hd : decode cc pc = .ok (.newarray .int, 2)) {k : zv_K} (hk : ∀ pc lv st S D, k pc lv st S D = some o → zv_G p l e R s m args below meth c Q nL b x cA dD n0 sl0 o pc lv st S D) {n : Int32} {r : List Value} (hn : ¬ n < 0) (hn2 : n.toNatClampNeg ≤ 65536) (hn1 : S.1 ≤ 100000) (h : k (pc + 2) lv (.ref S.1 :: r) (zv_new S 11 n.toNatClampNeg) (zv_zer S D) = some o) : zv_G p l e R s m args below meth c Q nL b x cA dD n0 sl0 o pc lv (.int n :: r) S D := by
  refine zq_al hC hn1 (by omega) (fun H locs cells slots ls hsz hc1 hc2 w => ?_) (hk _ _ _ _ _ h)
  refine va_newaK hC.1 hC.2.1 (atype := .int) (hC.2.2.2.2.1 _ hw) rfl hd rfl hn rfl (by
    have e4 : componentBytes (newarray.typeOf .int) ≤ 8 := by decide
    calc n.toNatClampNeg * componentBytes (newarray.typeOf .int) ≤ 65536 * 8 := Nat.mul_le_mul hn2 e4
      _ ≤ 536870912 := by decide) hc1 hc2 hsz fun H1 cA' e1 z1 o1 hAr hNm => ?_
  have hcA : cA' = cA 11 := Option.some.inj (hNm.symm.trans (hC.2.2.2.2.2.1.1.2 1 _ rfl).2)
  subst hcA
  have had : zv_ad b x S.1 = b + S.1 := by unfold zv_ad; rw [if_pos (by omega)]
  have := w H1 (by
    rw [zv_ce_a b x cA (zv_new S 11 n.toNatClampNeg) _ (t := 11) (by simp [zv_new]) rfl rfl]
    show H1[b + S.1]? = some (vp_cell _ _)
    rw [e1]
    simp [zv_new, zv_zer, vp_cell, defaultValue, newarray.typeOf]) o1 z1
  rw [List.map_cons, show zv_vl b x (.ref S.1) = .ref (b + S.1) from congrArg Value.ref had] at this
  exact this
theorem zq_newa_char (hC : zv_C p R s m args meth c cc nL on ini b x cA dD xs d n0 sl0 o) (hw : Cond.arrayClass .char ∈ zgw) (hd : decode cc pc = .ok (.newarray .char, 2)) {k : zv_K} (hk : ∀ pc lv st S D, k pc lv st S D = some o → zv_G p l e R s m args below meth c Q nL b x cA dD n0 sl0 o pc lv st S D) {n : Int32} {r : List Value} (hn : ¬ n < 0) (hn2 : n.toNatClampNeg ≤ 65536) (hn1 : S.1 ≤ 100000) (h : k (pc + 2) lv (.ref S.1 :: r) (zv_new S 10 n.toNatClampNeg) (zv_zer S D) = some o) : zv_G p l e R s m args below meth c Q nL b x cA dD n0 sl0 o pc lv (.int n :: r) S D := by
  refine zq_al hC hn1 (by omega) (fun H locs cells slots ls hsz hc1 hc2 w => ?_) (hk _ _ _ _ _ h)
  refine va_newaK hC.1 hC.2.1 (atype := .char) (hC.2.2.2.2.1 _ hw) rfl hd rfl hn rfl (by
    have e4 : componentBytes (newarray.typeOf .char) ≤ 8 := by decide
    calc n.toNatClampNeg * componentBytes (newarray.typeOf .char) ≤ 65536 * 8 := Nat.mul_le_mul hn2 e4
      _ ≤ 536870912 := by decide) hc1 hc2 hsz fun H1 cA' e1 z1 o1 hAr hNm => ?_
  have hcA : cA' = cA 10 := Option.some.inj (hNm.symm.trans (hC.2.2.2.2.2.1.1.2 0 _ rfl).2)
  subst hcA
  have had : zv_ad b x S.1 = b + S.1 := by unfold zv_ad; rw [if_pos (by omega)]
  have := w H1 (by
    rw [zv_ce_a b x cA (zv_new S 10 n.toNatClampNeg) _ (t := 10) (by simp [zv_new]) rfl rfl]
    show H1[b + S.1]? = some (vp_cell _ _)
    rw [e1]
    simp [zv_new, zv_zer, vp_cell, defaultValue, newarray.typeOf]) o1 z1
  rw [List.map_cons, show zv_vl b x (.ref S.1) = .ref (b + S.1) from congrArg Value.ref had] at this
  exact this
theorem zq_newa_boolean (hC : zv_C p R s m args meth c cc nL on ini b x cA dD xs d n0 sl0 o) (hw : Cond.arrayClass .boolean ∈ zgw) (hd : decode cc pc = .ok (.newarray .boolean, 2)) {k : zv_K} (hk : ∀ pc lv st S D, k pc lv st S D = some o → zv_G p l e R s m args below meth c Q nL b x cA dD n0 sl0 o pc lv st S D) {n : Int32} {r : List Value} (hn : ¬ n < 0) (hn2 : n.toNatClampNeg ≤ 65536) (hn1 : S.1 ≤ 100000) (h : k (pc + 2) lv (.ref S.1 :: r) (zv_new S 12 n.toNatClampNeg) (zv_zer S D) = some o) : zv_G p l e R s m args below meth c Q nL b x cA dD n0 sl0 o pc lv (.int n :: r) S D := by
  refine zq_al hC hn1 (by omega) (fun H locs cells slots ls hsz hc1 hc2 w => ?_) (hk _ _ _ _ _ h)
  refine va_newaK hC.1 hC.2.1 (atype := .boolean) (hC.2.2.2.2.1 _ hw) rfl hd rfl hn rfl (by
    have e4 : componentBytes (newarray.typeOf .boolean) ≤ 8 := by decide
    calc n.toNatClampNeg * componentBytes (newarray.typeOf .boolean) ≤ 65536 * 8 := Nat.mul_le_mul hn2 e4
      _ ≤ 536870912 := by decide) hc1 hc2 hsz fun H1 cA' e1 z1 o1 hAr hNm => ?_
  have hcA : cA' = cA 12 := Option.some.inj (hNm.symm.trans (hC.2.2.2.2.2.1.1.2 2 _ rfl).2)
  subst hcA
  have had : zv_ad b x S.1 = b + S.1 := by unfold zv_ad; rw [if_pos (by omega)]
  have := w H1 (by
    rw [zv_ce_a b x cA (zv_new S 12 n.toNatClampNeg) _ (t := 12) (by simp [zv_new]) rfl rfl]
    show H1[b + S.1]? = some (vp_cell _ _)
    rw [e1]
    simp [zv_new, zv_zer, vp_cell, defaultValue, newarray.typeOf]) o1 z1
  rw [List.map_cons, show zv_vl b x (.ref S.1) = .ref (b + S.1) from congrArg Value.ref had] at this
  exact this
theorem zq_anew (hC : zv_C p R s m args meth c cc nL on ini b x cA dD xs d n0 sl0 o) {i : Nat} (hl : Cond.classLink (zn_own on) i "HiddenExits$State" ∈ zgw) (hd : decode cc pc = .ok (.anewarray i, 3)) {k : zv_K} (hk : ∀ pc lv st S D, k pc lv st S D = some o → zv_G p l e R s m args below meth c Q nL b x cA dD n0 sl0 o pc lv st S D) {n : Int32} {r : List Value} (hn : ¬ n < 0) (hn2 : n.toNatClampNeg ≤ 65536) (hn1 : S.1 ≤ 100000) (h : k (pc + 3) lv (.ref S.1 :: r) (zv_new S 13 n.toNatClampNeg) (zv_zer S D) = some o) : zv_G p l e R s m args below meth c Q nL b x cA dD n0 sl0 o pc lv (.int n :: r) S D := by
  refine zq_al hC hn1 (by omega) (fun H locs cells slots ls hsz hc1 hc2 w => ?_) (hk _ _ _ _ _ h)
  refine W.anew hC.1 hC.2.1 hC.2.2.2.1 (hC.2.2.2.2.1 _ hl) (va_AO.use hC.2.2.2.2.2.1.2.2.2.2.2.2.2.2) rfl hd rfl hn (by omega) hc1 hc2 fun cA' kA comp f1 f2 f3 f4 => ?_
  obtain ⟨kA2, comp2, g1, g2, g3, g4⟩ := (hC.2.2.2.2.2.1.1.2 3 _ rfl).2
  have hcA : cA' = cA 13 := Option.some.inj (f1.symm.trans g4)
  subst hcA
  have had : zv_ad b x S.1 = b + S.1 := by unfold zv_ad; rw [if_pos (by omega)]
  have := w (H.push { cls := cA 13, slots := Array.replicate n.toNatClampNeg .null, vm := .none }) (by
    rw [zv_ce_q b x cA (zv_new S 13 n.toNatClampNeg) _ (by simp [zv_new])]
    show (H.push _)[b + S.1]? = some (vp_cell _ _)
    rw [← hsz, Array.getElem?_push_size, arrV_new]
    simp [zv_new, vp_cell, va_rf]) (fun q hq => by rw [Array.getElem?_push, if_neg (by omega)]) (by rw [Array.size_push, hsz])
  rw [List.map_cons, show zv_vl b x (.ref S.1) = .ref (b + S.1) from congrArg Value.ref had, ← hsz] at this
  exact this
theorem zq_aast (hC : zv_C p R s m args meth c cc nL on ini b x cA dD xs d n0 sl0 o) (hd : decode cc pc = .ok (.aastore, 1)) {k : zv_K} (hk : ∀ pc lv st S D, k pc lv st S D = some o → zv_G p l e R s m args below meth c Q nL b x cA dD n0 sl0 o pc lv st S D) {i : Int32} {a a2 : Nat} {r : List Value} (hq : (S.2.2.1 a).1 = 13) (hq2 : (S.2.2.1 a2).1 = 7) (hi : zv_in i (S.2.2.1 a).2 = true) (h : k (pc + 1) lv r (zv_rw S a i.toNatClampNeg a2) D = some o) : zv_G p l e R s m args below meth c Q nL b x cA dD n0 sl0 o pc lv (.ref a2 :: .int i :: .ref a :: r) S D := by
  refine zq_wr (S' := zv_rw S a i.toNatClampNeg a2) (D' := D) rfl rfl (fun H locs cells slots ls hH hS hl2 w => ?_) (hk _ _ _ _ _ h)
  obtain ⟨hlt, had⟩ := zv_ad_in (b := b) (x := x) hH.1 (by rw [hq]; decide : (S.2.2.1 a).1 < 14)
  obtain ⟨hlt2, had2⟩ := zv_ad_in (b := b) (x := x) hH.1 (by rw [hq2]; decide : (S.2.2.1 a2).1 < 14)
  show W p l e R s m args below meth c H locs cells slots Q (F0 m pc ls (.ref (zv_ad b x a2) :: .int i :: .ref (zv_ad b x a) :: r.map (zv_vl b x)))
  rw [had, had2]
  refine va_astq (A := fun q => b ≤ q) (H0 := s.heap) (r := (zn_own 7, zn_T 7, zn_nf 7)) hC.1 hC.2.1 hC.2.2.2.2.2.1.1 hH.2 (zv_ws_D b x cA S D) hS a 3 a2 7 ((zv_ws_at b x cA S D hlt).trans (by rw [zv_ce_q b x cA S D hq])) rfl ((zv_ws_at b x cA S D hlt2).trans (by rw [zv_ce_o b x cA S D hq2 (by decide)])) (zn_cls (by decide)) (zv_in_of hi) hd (fun H1 locs1 hP1 hD1 hS1 => w H1 locs1 ⟨hH.1, ?_⟩ hS1)
  rw [zv_ws_set b x cA S (zv_rw S a i.toNatClampNeg a2) D D rfl hlt (by
    rw [zv_ce_q b x cA (zv_rw S a i.toNatClampNeg a2) _ hq]
    have e : (fun j => ((zv_rw S a i.toNatClampNeg a2).2.2.2 a j).map (zv_ad b x)) = va_up (fun j => (S.2.2.2 a j).map (zv_ad b x)) i.toNatClampNeg (some (b + a2)) := by
      funext j
      by_cases hj : j = i.toNatClampNeg
      · simp [zv_rw, va_up, hj, had2]
      · simp [zv_rw, va_up, hj]
    rw [e]
    rfl) (fun j hj => zv_ce_congr b x cA rfl (by simp [zv_rw, hj]) rfl rfl)] at hP1
  exact hP1
def zc_ts (pc lo : Int) : List Int → List (Int32 × Nat) → Bool
  | [], [] => true
  | o :: os, (v, t) :: cs => decide (v.toInt = lo) && (decide (pc + o = (t : Int)) && zc_ts pc (lo + 1) os cs)
  | _, _ => false
def zc_ls (pc : Int) : List (Int × Int) → List (Int32 × Nat) → Bool
  | [], [] => true
  | (a, o) :: os, (v, t) :: cs => decide (v.toInt = a) && (decide (pc + o = (t : Int)) && zc_ls pc os cs)
  | _, _ => false
theorem zc_ts_spec (a : Int32) (dflt : Nat) (F : Nat → Option zv_O) : ∀ (offs : List Int) (cs : List (Int32 × Nat)) (lo : Int), zc_ts (pc : Int) lo offs cs = true → zv_sw cs a dflt F = some o →
    (∃ (j : Nat) (off : Int) (t : Nat), offs[j]? = some off ∧ a.toInt = lo + j ∧ (pc : Int) + off = (t : Int) ∧ F t = some o) ∨ ((a.toInt < lo ∨ lo + offs.length ≤ a.toInt) ∧ F dflt = some o) := by
  intro offs
  induction offs with
  | nil =>
    intro cs lo hc h
    cases cs with
    | nil => exact Or.inr ⟨by simp; omega, h⟩
    | cons q r => cases hc
  | cons off os ih =>
    intro cs lo hc h
    cases cs with
    | nil => cases hc
    | cons q r =>
      obtain ⟨v, t⟩ := q
      unfold zc_ts at hc
      simp only [Bool.and_eq_true, decide_eq_true_eq] at hc
      obtain ⟨c1, c2, c3⟩ := hc
      unfold zv_sw at h
      by_cases ha : a = v
      · rw [if_pos ha] at h
        exact Or.inl ⟨0, off, t, rfl, by rw [ha, c1]; simp, c2, h⟩
      · rw [if_neg ha] at h
        have hne : a.toInt ≠ lo := fun q => ha (Int32.toInt_inj.mp (by rw [c1, q]))
        rcases ih r (lo + 1) c3 h with ⟨j, off', t', g1, g2, g3, g4⟩ | ⟨g1, g2⟩
        · exact Or.inl ⟨j + 1, off', t', by simpa using g1, by rw [g2]; push_cast; omega, g3, g4⟩
        · refine Or.inr ⟨?_, g2⟩
          rw [List.length_cons]
          push_cast
          omega
theorem zc_ls_spec (a : Int32) (dflt : Nat) (F : Nat → Option zv_O) {df : Int} (hdf : (pc : Int) + df = (dflt : Int)) : ∀ (ps : List (Int × Int)) (cs : List (Int32 × Nat)), zc_ls (pc : Int) ps cs = true → zv_sw cs a dflt F = some o →
    ∃ (t : Nat), (pc : Int) + Op.lookupswitch.offset ps df a.toInt = (t : Int) ∧ F t = some o := by
  intro ps
  induction ps with
  | nil =>
    intro cs hc h
    cases cs with
    | nil => exact ⟨dflt, hdf, h⟩
    | cons q r => cases hc
  | cons u os ih =>
    intro cs hc h
    cases cs with
    | nil => cases hc
    | cons q r =>
      obtain ⟨v, t⟩ := q
      obtain ⟨ua, uo⟩ := u
      unfold zc_ls at hc
      simp only [Bool.and_eq_true, decide_eq_true_eq] at hc
      obtain ⟨c1, c2, c3⟩ := hc
      unfold zv_sw at h
      by_cases ha : a = v
      · rw [if_pos ha] at h
        refine ⟨t, ?_, h⟩
        rw [Op.lookupswitch.offset_cons, if_pos (by rw [ha, c1])]
        exact c2
      · rw [if_neg ha] at h
        rw [lv_osw ha c1]
        exact ih r c3 h
theorem zq_tsw (hC : zv_C p R s m args meth c cc nL on ini b x cA dD xs d n0 sl0 o) {df lo hi : Int} {offs : Array Int} {len dflt : Nat} {cs : List (Int32 × Nat)} (hdf : (pc : Int) + df = (dflt : Int)) (hhi : hi = lo + offs.toList.length - 1) (hcs : zc_ts (pc : Int) lo offs.toList cs = true) (hd : decode cc pc = .ok (.tableswitch df lo hi offs, len)) {k : zv_K} (hk : ∀ pc lv st S D, k pc lv st S D = some o → zv_G p l e R s m args below meth c Q nL b x cA dD n0 sl0 o pc lv st S D) (h : zv_i1 st (fun a r => zv_sw cs a dflt fun t => k t lv r S D) = some o) : zv_G p l e R s m args below meth c Q nL b x cA dD n0 sl0 o pc lv st S D := by
  unfold zv_i1 at h; split at h
  · rename_i a r
    dsimp only at h
    rcases zc_ts_spec a dflt _ offs.toList cs lo hcs h with ⟨j, off, t, g1, g2, g3, g4⟩ | ⟨g1, g2⟩
    · have hlt : j < offs.toList.length := (List.getElem?_eq_some_iff.mp g1).1
      refine zq_step (fun H locs cells slots ls _ w => lv_tableIn hC.1 hC.2.1 hd (by omega) (by omega) (off := off) ?_ g3 w) (hk _ _ _ _ _ g4)
      rw [show (a.toInt - lo).toNat = j by omega, ← Array.getElem?_toList]
      exact g1
    · exact zq_step (fun H locs cells slots ls _ w => lv_tableOut hC.1 hC.2.1 hd (by omega) hdf w) (hk _ _ _ _ _ g2)
  · cases h
theorem zq_lsw (hC : zv_C p R s m args meth c cc nL on ini b x cA dD xs d n0 sl0 o) {df : Int} {ps : Array (Int × Int)} {len dflt : Nat} {cs : List (Int32 × Nat)} (hdf : (pc : Int) + df = (dflt : Int)) (hso : (ps.toList.zip (ps.toList.drop 1)).all (fun (a, next) => a.1 < next.1) = true) (hcs : zc_ls (pc : Int) ps.toList cs = true) (hd : decode cc pc = .ok (.lookupswitch df ps, len)) {k : zv_K} (hk : ∀ pc lv st S D, k pc lv st S D = some o → zv_G p l e R s m args below meth c Q nL b x cA dD n0 sl0 o pc lv st S D) (h : zv_i1 st (fun a r => zv_sw cs a dflt fun t => k t lv r S D) = some o) : zv_G p l e R s m args below meth c Q nL b x cA dD n0 sl0 o pc lv st S D := by
  unfold zv_i1 at h; split at h
  · rename_i a r
    dsimp only at h
    obtain ⟨t, g1, g2⟩ := zc_ls_spec a dflt _ hdf ps.toList cs hcs h
    exact zq_step (fun H locs cells slots ls _ w => lv_lookup hC.1 hC.2.1 hd hso rfl g1 w) (hk _ _ _ _ _ g2)
  · cases h
end ZA
