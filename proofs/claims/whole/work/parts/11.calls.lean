/-! ===== calls ===== -/
theorem zg_in {ws : List Cond} (h : ∀ w ∈ ws, w ∈ zgw) : GoodIn zgw ws := fun w hw => ⟨h w hw, good_of_word (zgw_good (h w hw))⟩
theorem zg_wo {mt : zv_Mt} (h : zv_mok mt) : ∀ w ∈ zv_wo mt, w ∈ zgw := fun w hw => (List.mem_cons.mp hw).elim (fun e => e ▸ h.1) (fun q => q)
theorem znw_of {w : Cond} (h : w ∈ znw) : ∃ a i y hh, w = .methodLinkNest a i y hh := by
  have h2 := (List.mem_filter.mp h).2
  cases w with
  | methodLinkNest a i y hh => exact ⟨a, i, y, hh, rfl⟩
  | _ => cases h2
theorem zv_env_at {b : Nat} {x : Nat → Nat} {cA : Nat → ClassId} {dD : va_G} {xs : Nat × (Nat → Int32)} {s U : State} {H : Heap} {locs : List Loc} (h : zv_env b x cA dD xs s) (hS : va_S (fun q => b ≤ q) s.heap H locs) (hb : b ≤ s.heap.size) (hU : U.heap = H) (hW : s.WarmedH U.vm) : zv_env b x cA dD xs U := by
  obtain ⟨h1, h2, h3, h4, h5, h6, h7, h8, h9⟩ := h
  have hq : ∀ a : Nat, a < s.heap.size → ¬ b ≤ a → U.heap[a]? = s.heap[a]? := fun a g1 g2 => by rw [hU]; exact hS.2.1 a g1 g2
  refine ⟨h1.moved hW.alike, (h2.kept hq).moved hW.alike, (h3.kept hq).moved hW.alike, (h4.kept hq).moved hW.alike, (h5.kept hq).moved hW.alike, (h6.kept (hq _ (by omega) (by omega))).moved hW.alike, h7, fun w hw => ?_, h9.moved hW.alike⟩
  obtain ⟨a, i, y, hh, rfl⟩ := znw_of hw
  exact va_Nw.warmM hW (h8 _ hw)
theorem zv_blind {b : Nat} {x : Nat → Nat} {cA : Nat → ClassId} {dD : va_G} {xs : Nat × (Nat → Int32)} {As : List Value} {S : zv_S} {D : zv_D} : FrameBlind (zv_Pc b x cA dD xs As S D) := by
  intro a U g mk q
  obtain ⟨q0, q1, q2, h1, h2, h3, h4, h5, h6, h7, h8, h9⟩ := q
  have hr : U.vm.Alike (U.calling g mk a).vm := Vm.Alike.refl U.vm
  refine ⟨q0, q1, q2, h1.moved hr, h2.moved hr, h3.moved hr, h4.moved hr, h5.moved hr, h6.moved hr, h7, fun w hw => ?_, h9.moved hr⟩
  obtain ⟨a', i, y, hh, rfl⟩ := znw_of hw
  exact va_Nw.same rfl rfl (h8 _ hw)
section ZC
variable {p : Program} {l : Launch} {e : Env} {R : Room} {s : State} {m : MethodId} {args : Array Value} {below : List Frame} {meth : Method} {c : Code} {Q : State → Prop}
variable {cc : ByteArray} {nL on : Nat} {ini : Bool} {b : Nat} {x : Nat → Nat} {cA : Nat → ClassId} {dD : va_G} {xs : Nat × (Nat → Int32)} {d n0 sl0 : Nat} {o : zv_O}
variable {pc pc' : Nat} {lv lv' : zv_L} {st st' : List Value} {S S' : zv_S} {D D' : zv_D}
theorem zq_after {rk : Nat} {r : zv_R} {H : Heap} {locs : List Loc} {cells slots mc ms : Nat} {ls : Array Slot} {st0 rest : List Value} {a : Array Value} (run : va_Run p l e R s m args below meth c H locs cells slots mc ms (F0 m pc ls st0) (rest.map (zv_vl b x)) (zv_Qc b x cA dD rk r S' D' a) (fun q => b ≤ q)) (hS : va_S (fun q => b ≤ q) s.heap H locs)
    (w : ∀ (H1 : Heap) (locs1 : List Loc), zv_H b x cA dD S' D' H1 → va_S (fun q => b ≤ q) s.heap H1 locs1 → W p l e R s m args below meth c H1 locs1 (cells + mc) (slots + ms) Q (F0 m (pc + 3) ls ((zv_psh rk r rest).map (zv_vl b x)))) : W p l e R s m args below meth c H locs cells slots Q (F0 m pc ls st0) := by
  match rk, run, w with
  | 0, run, w =>
    refine va_callv (a := a) run hS (fun q _ h => h) (fun q h => h) fun u t H1 locs1 ht hvm hp hB hz hk1 hS1 => ?_
    rw [ht] at hB
    exact w H1 locs1 hB hS1
  | 1, run, w =>
    refine va_calli (a := a) run hS (fun q _ h => h) (fun q h => h) fun v u t H1 locs1 ht hvm hp hB hz hk1 hS1 => ?_
    rw [ht] at hB
    rw [hp]
    exact w H1 locs1 hB hS1
  | 2, run, w =>
    refine va_calll (a := a) run hS (fun q _ h => h) (fun q h => h) fun v u t H1 locs1 ht hvm hp hB hz hk1 hS1 => ?_
    rw [ht] at hB
    rw [hp]
    exact w H1 locs1 hB hS1
  | k + 3, run, w =>
    refine va_callr (a := a) run hS (fun q _ h => h) (fun q h => h) fun u ra t H1 locs1 ht hvm hp hB hz hk1 hS1 => ?_
    rw [ht] at hB
    rw [hB.1]
    exact w H1 locs1 hB.2 hS1
/-- the room of a callee -/
theorem zq_room (hC : zv_C p R s m args meth c cc nL on ini b x cA dD xs d n0 sl0 o) {maxL mc ms : Nat} (hm : maxL ≤ 21) : (zv_rm d mc ms).frames + 1 ≤ R.frames ∧ 8 + (maxL + 11) + (zv_rm d mc ms).locals ≤ R.locals := by
  have h1 := hC.2.2.2.2.2.2.2.2.1
  have h2 := hC.2.2.2.2.2.2.2.2.2.1
  refine ⟨h1, ?_⟩
  show 8 + (maxL + 11) + 40 * d ≤ R.locals
  omega
theorem zq_pre (hC : zv_C p R s m args meth c cc nL on ini b x cA dD xs d n0 sl0 o) {H : Heap} {locs : List Loc} {As : List Value} (hsz : H.size = b + S.1) (h1 : zv_H b x cA dD S D H) (h4 : va_S (fun q => b ≤ q) s.heap H locs) : ∀ U : State, U.heap = H → s.WarmedH U.vm → zv_Pc b x cA dD xs As S D (As.map (zv_vl b x)).toArray U := fun U hU hW =>
  ⟨rfl, by rw [hU]; exact hsz, by rw [hU]; exact h1, zv_env_at hC.2.2.2.2.2.1 h4 (by have := hC.2.2.2.2.2.2.1; omega) hU hW⟩
theorem zq_stk (As rest : List Value) : (As.reverse ++ rest).map (zv_vl b x) = (As.map (zv_vl b x)).reverse ++ rest.map (zv_vl b x) := by
  rw [List.map_append, List.map_reverse]
theorem zq_W {rest : List Value} (h : zv_cs rest ≤ 8) : ((rest.map (zv_vl b x)).map fun v => v.category).sum ≤ 8 := by
  rw [zv_cs_sum, zv_cs_map]
  exact h
theorem zq_callV (hC : zv_C p R s m args meth c cc nL on ini b x cA dD xs d n0 sl0 o) {i q : Nat} {mt : zv_Mt} {Ps rest : List Value} {r : zv_R} (hmk : zv_mok mt) (hkd : mt.2.2.2.2.2.2.2.1 = 0) (hl : Cond.methodLink (zn_own on) i mt.1 ∈ zgw) (hd : decode cc pc = .ok (.invokevirtual i, 3)) (hqk : (S.2.2.1 q).1 = mt.2.2.2.2.2.2.1) (hlen : Ps.length + 1 = mt.2.2.2.2.1) (hcs : zv_cs rest ≤ 8) (hct : zv_ct l b x cA dD xs d mt (.ref q :: Ps) S D (r, S, D')) (hg : zv_G p l e R s m args below meth c Q nL b x cA dD n0 sl0 o (pc + 3) lv (zv_psh mt.2.2.2.2.2.1 r rest) S D') : zv_G p l e R s m args below meth c Q nL b x cA dD n0 sl0 o pc lv ((.ref q :: Ps).reverse ++ rest) S D := by
  refine ⟨hg.1, fun H locs ls h1 h2 h3 h4 h5 => zq_size fun hle => ?_⟩
  have hsz := zv_size h1 h4 hC.2.2.2.2.2.2.1 h2 hle
  obtain ⟨m1, m2, m3, m4, m5, m6, m7, m8⟩ := hmk
  rw [hkd] at m7
  obtain ⟨k1, k2, k3, k4⟩ := m7
  obtain ⟨hlt, had⟩ := zv_ad_in (b := b) (x := x) h1.1 (by rw [hqk]; omega : (S.2.2.1 q).1 < 14)
  rw [zq_stk]
  have hcw := cwV (R := R) (own := zn_own on) (index := i) (C := mt.1.cls) (mc := S.1 - S.1) (ms := S.2.1 - S.2.1) (rm := zv_rm d (S.1 - S.1) (S.2.1 - S.2.1)) Ps.length hC.2.2.2.2.1 (zg_in (ws := wsV (zn_own on) i mt.1.cls mt.1 (zv_wo mt)) (fun w hw => by
    rcases List.mem_append.mp hw with g | g
    · simp only [List.mem_cons, List.not_mem_nil, or_false] at g
      rcases g with rfl | rfl | rfl | rfl
      · exact hl
      · exact k1
      · exact k2
      · exact m2
    · exact (List.mem_cons.mp g).elim (fun e => e ▸ m1) (fun z => z))) rfl rfl rfl ⟨rfl, m4.1, m4.2, by
      revert k4
      cases parseMethodDescriptor mt.1.desc with
      | none => intro k4; cases k4
      | some sg =>
        intro k4
        have k4 : sg.parameters.length + 1 = mt.2.2.2.2.1 := Option.some.inj k4
        show some sg.parameters.length = some Ps.length
        rw [show sg.parameters.length = Ps.length by omega]⟩ (zq_room hC m6)
  refine zq_after (va_runV (As := Ps.map (zv_vl b x)) (b := zv_ad b x q) ⟨hC.1, hC.2.1, hC.2.2.1, hC.2.2.2.1, hC.2.2.2.2.1⟩ hct.2.2 hcw ⟨zv_blind, ?_, zq_pre hC (As := .ref q :: Ps) hsz h1 h4⟩ rfl (by rw [List.length_map]) h5.1 ?_ (lv_room (zq_W hcs)) hd ?_) h4 (fun H1 locs1 q1 q2 => ?_)
  · have := va_recv hC.2.2.2.2.2.1.1 h1.2 (zn_cls k3) ((zv_ws_at b x cA S D hlt).trans (by rw [zv_ce_o b x cA S D hqk k3]))
    rw [had, m5]
    exact this
  · show _ = (Ps.map (zv_vl b x)).reverse ++ .ref (zv_ad b x q) :: rest.map (zv_vl b x)
    rw [List.map_cons, List.reverse_cons, List.append_assoc]
    rfl
  · have := hC.2.2.2.2.2.2.2.2.2.2
    have := hg.1
    show (S.1 - n0) + (S.1 - S.1) ≤ R.cells ∧ (S.2.1 - sl0) + (S.2.1 - S.2.1) ≤ R.slots
    constructor <;> omega
  · have := hg.2 H1 locs1 ls q1 h2 h3 q2 h5
    rw [Nat.sub_self, Nat.sub_self]
    exact this
theorem zq_callS (hC : zv_C p R s m args meth c cc nL on ini b x cA dD xs d n0 sl0 o) {i : Nat} {mt : zv_Mt} {As rest : List Value} {r : zv_R} (hmk : zv_mok mt) (hkd : mt.2.2.2.2.2.2.2.1 = 1) (hl : Cond.methodLink (zn_own on) i mt.1 ∈ zgw ∨ ∃ host, Cond.methodLinkNest (zn_own on) i mt.1 host ∈ znw) (hd : decode cc pc = .ok (.invokestatic i, 3)) (hlen : As.length = mt.2.2.2.2.1) (hcs : zv_cs rest ≤ 8) (hct : zv_ct l b x cA dD xs d mt As S D (r, S, D')) (hg : zv_G p l e R s m args below meth c Q nL b x cA dD n0 sl0 o (pc + 3) lv (zv_psh mt.2.2.2.2.2.1 r rest) S D') : zv_G p l e R s m args below meth c Q nL b x cA dD n0 sl0 o pc lv (As.reverse ++ rest) S D := by
  refine ⟨hg.1, fun H locs ls h1 h2 h3 h4 h5 => zq_size fun hle => ?_⟩
  have hsz := zv_size h1 h4 hC.2.2.2.2.2.2.1 h2 hle
  obtain ⟨m1, m2, m3, m4, m5, m6, m7, m8⟩ := hmk
  rw [hkd] at m7
  obtain ⟨k1, k4⟩ := m7
  rw [zq_stk]
  have hpar : (parseMethodDescriptor mt.1.desc).map (fun q => q.parameters.length) = some As.length := by rw [hlen]; exact k4
  have hf : (S.1 - n0) + (S.1 - S.1) ≤ R.cells ∧ (S.2.1 - sl0) + (S.2.1 - S.2.1) ≤ R.slots := by
    have := hC.2.2.2.2.2.2.2.2.2.2
    have := hg.1
    constructor <;> omega
  rcases hl with hl | ⟨host, hl⟩
  · have hcw := va_cwS (R := R) (s := s) (args := args) (own := zn_own on) (index := i) (mc := S.1 - S.1) (ms := S.2.1 - S.2.1) (rm := zv_rm d (S.1 - S.1) (S.2.1 - S.2.1)) As.length hC.2.2.2.2.1 (zg_in (ws := va_wsS (zn_own on) i mt.1 (zv_wo mt)) (fun w hw => by
      rcases List.mem_append.mp hw with g | g
      · simp only [List.mem_cons, List.not_mem_nil, or_false] at g
        rcases g with rfl | rfl | rfl
        · exact hl
        · exact k1
        · exact m2
      · exact (List.mem_cons.mp g).elim (fun e => e ▸ m1) (fun z => z))) rfl rfl rfl ⟨m4.1, m4.2, hpar⟩ (zq_room hC m6)
    refine zq_after (va_runS (As := As.map (zv_vl b x)) ⟨hC.1, hC.2.1, hC.2.2.1, hC.2.2.2.1, hC.2.2.2.2.1⟩ hct.2.2 hcw ⟨zv_blind, zq_pre hC hsz h1 h4⟩ rfl (by rw [List.length_map]) h5.1 rfl (lv_room (zq_W hcs)) hd hf) h4 (fun H1 locs1 q1 q2 => ?_)
    have := hg.2 H1 locs1 ls q1 h2 h3 q2 h5
    rw [Nat.sub_self, Nat.sub_self]
    exact this
  · have hcw := va_cnB (R := R) (s := s) (args := args) (own := zn_own on) (host := host) (index := i) (mc := S.1 - S.1) (ms := S.2.1 - S.2.1) (rm := zv_rm d (S.1 - S.1) (S.2.1 - S.2.1)) As.length hC.2.2.2.2.1 (zg_in (ws := zv_wo mt) (fun w g => (List.mem_cons.mp g).elim (fun e => e ▸ m1) (fun z => z))) rfl rfl rfl (hC.2.2.2.2.2.1.2.2.2.2.2.2.2.1 _ hl) (hC.2.2.2.2.1 _ m2) ⟨m4.1, m4.2, hpar⟩ (zq_room hC m6)
    refine zq_after (va_runSN (As := As.map (zv_vl b x)) ⟨hC.1, hC.2.1, hC.2.2.1, hC.2.2.2.1, hC.2.2.2.2.1⟩ hct.2.2 ⟨hcw, hC.2.2.2.2.1 _ k1, trivial⟩ ⟨zv_blind, zq_pre hC hsz h1 h4⟩ rfl (by rw [List.length_map]) h5.1 rfl (lv_room (zq_W hcs)) hd hf) h4 (fun H1 locs1 q1 q2 => ?_)
    have := hg.2 H1 locs1 ls q1 h2 h3 q2 h5
    rw [Nat.sub_self, Nat.sub_self]
    exact this
theorem zq_callI (hC : zv_C p R s m args meth c cc nL on ini b x cA dD xs d n0 sl0 o) {i q : Nat} {mt : zv_Mt} {Ps rest : List Value} {o' : zv_O} (hmk : zv_mok mt) (hkd : mt.2.2.2.2.2.2.2.1 = 2) (hl : Cond.methodLink (zn_own on) i mt.1 ∈ zgw ∨ ∃ host, Cond.methodLinkNest (zn_own on) i mt.1 host ∈ znw) (hd : decode cc pc = .ok (.invokespecial i, 3)) (hlen : Ps.length + 1 = mt.2.2.2.2.1) (hcs : zv_cs rest ≤ 8) (hct : zv_ct l b x cA dD xs d mt (.ref q :: Ps) S D o') (hg : zv_G p l e R s m args below meth c Q nL b x cA dD n0 sl0 o (pc + 3) lv rest o'.2.1 o'.2.2) : zv_G p l e R s m args below meth c Q nL b x cA dD n0 sl0 o pc lv ((.ref q :: Ps).reverse ++ rest) S D := by
  obtain ⟨t1, t2, t3⟩ := hct
  refine ⟨⟨Nat.le_trans t1 hg.1.1, Nat.le_trans t2 hg.1.2⟩, fun H locs ls h1 h2 h3 h4 h5 => zq_size fun hle => ?_⟩
  have hsz := zv_size h1 h4 hC.2.2.2.2.2.2.1 h2 hle
  obtain ⟨m1, m2, m3, m4, m5, m6, m7, m8⟩ := hmk
  rw [hkd] at m7
  obtain ⟨k1, k2, k3, k5, k4⟩ := m7
  rw [k5] at t3
  rw [zq_stk]
  have hwo : zv_wo mt = Cond.code mt.1 mt.2.1 mt.2.2.1 none :: zgw := by unfold zv_wo; rw [k3]
  have hpar : (parseMethodDescriptor mt.1.desc).map (fun q => q.parameters.length) = some Ps.length := by
    revert k4
    cases parseMethodDescriptor mt.1.desc with
    | none => intro k4; cases k4
    | some sg =>
      intro k4
      have k4 : sg.parameters.length + 1 = mt.2.2.2.2.1 := Option.some.inj k4
      show some sg.parameters.length = some Ps.length
      rw [show sg.parameters.length = Ps.length by omega]
  have hf : (S.1 - n0) + (o'.2.1.1 - S.1) ≤ R.cells ∧ (S.2.1 - sl0) + (o'.2.1.2.1 - S.2.1) ≤ R.slots := by
    have := hC.2.2.2.2.2.2.2.2.2.2
    have := hg.1
    constructor <;> omega
  have hst : (List.map (zv_vl b x) (.ref q :: Ps)).reverse ++ rest.map (zv_vl b x) = (Ps.map (zv_vl b x)).reverse ++ .ref (zv_ad b x q) :: rest.map (zv_vl b x) := by
    rw [List.map_cons, List.reverse_cons, List.append_assoc]
    rfl
  have fin : ∀ (H1 : Heap) (locs1 : List Loc), zv_H b x cA dD o'.2.1 o'.2.2 H1 → va_S (fun q => b ≤ q) s.heap H1 locs1 → W p l e R s m args below meth c H1 locs1 (S.1 - n0 + (o'.2.1.1 - S.1)) (S.2.1 - sl0 + (o'.2.1.2.1 - S.2.1)) Q (F0 m (pc + 3) ls ((zv_psh 0 o'.1 rest).map (zv_vl b x))) := by
    intro H1 locs1 q1 q2
    have := hg.2 H1 locs1 ls q1 (by omega) (by omega) q2 h5
    rw [show o'.2.1.1 - n0 = S.1 - n0 + (o'.2.1.1 - S.1) by omega, show o'.2.1.2.1 - sl0 = S.2.1 - sl0 + (o'.2.1.2.1 - S.2.1) by omega] at this
    exact this
  rcases hl with hl | ⟨host, hl⟩
  · have hcw := cwI (R := R) (own := zn_own on) (index := i) (mc := o'.2.1.1 - S.1) (ms := o'.2.1.2.1 - S.2.1) (rm := zv_rm d (o'.2.1.1 - S.1) (o'.2.1.2.1 - S.2.1)) Ps.length hC.2.2.2.2.1 (zg_in (ws := zv_wo mt) (fun w g => (List.mem_cons.mp g).elim (fun e => e ▸ m1) (fun z => z))) hwo rfl rfl (hC.2.2.2.2.1 _ m2) (hC.2.2.2.2.1 _ hl) (hC.2.2.2.2.1 _ k1) k2 ⟨m4.1, m4.2, hpar⟩ (zq_room hC m6)
    exact zq_after (va_runI (As := Ps.map (zv_vl b x)) (b := zv_ad b x q) ⟨hC.1, hC.2.1, hC.2.2.1, hC.2.2.2.1, hC.2.2.2.2.1⟩ t3 hcw ⟨zv_blind, zq_pre hC (As := .ref q :: Ps) hsz h1 h4⟩ rfl (by rw [List.length_map]) h5.1 hst (lv_room (zq_W hcs)) hd hf) h4 fin
  · have hcw := va_cnB (R := R) (s := s) (args := args) (own := zn_own on) (host := host) (index := i) (mc := o'.2.1.1 - S.1) (ms := o'.2.1.2.1 - S.2.1) (rm := zv_rm d (o'.2.1.1 - S.1) (o'.2.1.2.1 - S.2.1)) Ps.length hC.2.2.2.2.1 (zg_in (ws := zv_wo mt) (fun w g => (List.mem_cons.mp g).elim (fun e => e ▸ m1) (fun z => z))) hwo rfl rfl (hC.2.2.2.2.2.1.2.2.2.2.2.2.2.1 _ hl) (hC.2.2.2.2.1 _ m2) ⟨m4.1, m4.2, hpar⟩ (zq_room hC m6)
    exact zq_after (va_runIN (As := Ps.map (zv_vl b x)) (b := zv_ad b x q) ⟨hC.1, hC.2.1, hC.2.2.1, hC.2.2.2.1, hC.2.2.2.2.1⟩ t3 ⟨hcw, k2, hC.2.2.2.2.1 _ k1⟩ ⟨zv_blind, zq_pre hC (As := .ref q :: Ps) hsz h1 h4⟩ rfl (by rw [List.length_map]) h5.1 hst (lv_room (zq_W hcs)) hd hf) h4 fin
end ZC
