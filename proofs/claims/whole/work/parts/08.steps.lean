/-! ===== a row for each instruction ===== -/
def zv_C (p : Program) (R : Room) (s : State) (m : MethodId) (args : Array Value) (meth : Method) (c : Code) (cc : ByteArray) (nL on : Nat) (ini : Bool) (b : Nat) (x : Nat → Nat) (cA : Nat → ClassId) (dD : va_G) (xs : Nat × (Nat → Int32)) (d n0 sl0 : Nat) (o : zv_O) : Prop :=
  p.tables.exec = Jvm.exec ∧ c.code = cc ∧ c.maxLocals = nL ∧ s.vm.findClass (zn_own on) = some m.cls ∧ (∀ w ∈ zgw, w.before args s = true) ∧ zv_env b x cA dD xs s ∧ s.heap.size = b + n0 ∧ (ini = true → meth.name = "<init>") ∧ d + 1 ≤ R.frames ∧ 40 * (d + 1) ≤ R.locals ∧ o.2.1.1 - n0 ≤ R.cells ∧ o.2.1.2.1 - sl0 ≤ R.slots
def zv_G (p : Program) (l : Launch) (e : Env) (R : Room) (s : State) (m : MethodId) (args : Array Value) (below : List Frame) (meth : Method) (c : Code) (Q : State → Prop) (nL b : Nat) (x : Nat → Nat) (cA : Nat → ClassId) (dD : va_G) (n0 sl0 : Nat) (o : zv_O) (pc : Nat) (lv : zv_L) (st : List Value) (S : zv_S) (D : zv_D) : Prop :=
  (S.1 ≤ o.2.1.1 ∧ S.2.1 ≤ o.2.1.2.1) ∧ ∀ (H : Heap) (locs : List Loc) (ls : Array Slot), zv_H b x cA dD S D H → n0 ≤ S.1 → sl0 ≤ S.2.1 → va_S (fun q => b ≤ q) s.heap H locs → zv_lr b x ls nL lv → W p l e R s m args below meth c H locs (S.1 - n0) (S.2.1 - sl0) Q (F0 m pc ls (st.map (zv_vl b x)))
section ZQ
variable {p : Program} {l : Launch} {e : Env} {R : Room} {s : State} {m : MethodId} {args : Array Value} {below : List Frame} {meth : Method} {c : Code} {Q : State → Prop}
variable {cc : ByteArray} {nL on : Nat} {ini : Bool} {b : Nat} {x : Nat → Nat} {cA : Nat → ClassId} {dD : va_G} {xs : Nat × (Nat → Int32)} {d n0 sl0 : Nat} {o : zv_O}
variable {pc pc' : Nat} {lv lv' : zv_L} {st st' : List Value} {S S' : zv_S} {D D' : zv_D}
/-- nothing but the stack changes -/
theorem zq_step (row : ∀ (H : Heap) (locs : List Loc) (cells slots : Nat) (ls : Array Slot), zv_lr b x ls nL lv → W p l e R s m args below meth c H locs cells slots Q (F0 m pc' ls (st'.map (zv_vl b x))) → W p l e R s m args below meth c H locs cells slots Q (F0 m pc ls (st.map (zv_vl b x)))) (hg : zv_G p l e R s m args below meth c Q nL b x cA dD n0 sl0 o pc' lv st' S D) : zv_G p l e R s m args below meth c Q nL b x cA dD n0 sl0 o pc lv st S D :=
  ⟨hg.1, fun H locs ls h1 h2 h3 h4 h5 => row H locs _ _ ls h5 (hg.2 H locs ls h1 h2 h3 h4 h5)⟩
/-- a branch -/
theorem zq_br {P : Prop} [hP : Decidable P] {F1 F2 : Option zv_O} {pc2 : Nat} (row : ∀ (H : Heap) (locs : List Loc) (cells slots : Nat) (ls : Array Slot), (P → W p l e R s m args below meth c H locs cells slots Q (F0 m pc' ls (st'.map (zv_vl b x)))) → (¬ P → W p l e R s m args below meth c H locs cells slots Q (F0 m pc2 ls (st'.map (zv_vl b x)))) → W p l e R s m args below meth c H locs cells slots Q (F0 m pc ls (st.map (zv_vl b x))))
    (h1 : F1 = some o → zv_G p l e R s m args below meth c Q nL b x cA dD n0 sl0 o pc' lv st' S D) (h2 : F2 = some o → zv_G p l e R s m args below meth c Q nL b x cA dD n0 sl0 o pc2 lv st' S D) (h : (if P then F1 else F2) = some o) : zv_G p l e R s m args below meth c Q nL b x cA dD n0 sl0 o pc lv st S D := by
  by_cases hp : P
  · rw [if_pos hp] at h
    exact ⟨(h1 h).1, fun H locs ls a1 a2 a3 a4 a5 => row H locs _ _ ls (fun _ => (h1 h).2 H locs ls a1 a2 a3 a4 a5) (fun q => absurd hp q)⟩
  · rw [if_neg hp] at h
    exact ⟨(h2 h).1, fun H locs ls a1 a2 a3 a4 a5 => row H locs _ _ ls (fun q => absurd q hp) (fun _ => (h2 h).2 H locs ls a1 a2 a3 a4 a5)⟩
/-- the locals change -/
theorem zq_loc (row : ∀ (H : Heap) (locs : List Loc) (cells slots : Nat) (ls : Array Slot), zv_lr b x ls nL lv → (∀ ls' : Array Slot, zv_lr b x ls' nL lv' → W p l e R s m args below meth c H locs cells slots Q (F0 m pc' ls' (st'.map (zv_vl b x)))) → W p l e R s m args below meth c H locs cells slots Q (F0 m pc ls (st.map (zv_vl b x)))) (hg : zv_G p l e R s m args below meth c Q nL b x cA dD n0 sl0 o pc' lv' st' S D) : zv_G p l e R s m args below meth c Q nL b x cA dD n0 sl0 o pc lv st S D :=
  ⟨hg.1, fun H locs ls h1 h2 h3 h4 h5 => row H locs _ _ ls h5 (fun ls' h => hg.2 H locs ls' h1 h2 h3 h4 h)⟩
/-- the heap is read -/
theorem zq_rd (row : ∀ (H : Heap) (locs : List Loc) (cells slots : Nat) (ls : Array Slot), zv_H b x cA dD S D H → va_S (fun q => b ≤ q) s.heap H locs → W p l e R s m args below meth c H locs cells slots Q (F0 m pc' ls (st'.map (zv_vl b x))) → W p l e R s m args below meth c H locs cells slots Q (F0 m pc ls (st.map (zv_vl b x)))) (hg : zv_G p l e R s m args below meth c Q nL b x cA dD n0 sl0 o pc' lv st' S D) : zv_G p l e R s m args below meth c Q nL b x cA dD n0 sl0 o pc lv st S D :=
  ⟨hg.1, fun H locs ls h1 h2 h3 h4 h5 => row H locs _ _ ls h1 h4 (hg.2 H locs ls h1 h2 h3 h4 h5)⟩
/-- the heap is written -/
theorem zq_wr (e1 : S'.1 = S.1) (e2 : S'.2.1 = S.2.1) (row : ∀ (H : Heap) (locs : List Loc) (cells slots : Nat) (ls : Array Slot), zv_H b x cA dD S D H → va_S (fun q => b ≤ q) s.heap H locs → zv_lr b x ls nL lv → (∀ (H1 : Heap) (locs1 : List Loc), zv_H b x cA dD S' D' H1 → va_S (fun q => b ≤ q) s.heap H1 locs1 → W p l e R s m args below meth c H1 locs1 cells slots Q (F0 m pc' ls (st'.map (zv_vl b x)))) → W p l e R s m args below meth c H locs cells slots Q (F0 m pc ls (st.map (zv_vl b x)))) (hg : zv_G p l e R s m args below meth c Q nL b x cA dD n0 sl0 o pc' lv st' S' D') : zv_G p l e R s m args below meth c Q nL b x cA dD n0 sl0 o pc lv st S D := by
  refine ⟨by rw [← e1, ← e2]; exact hg.1, fun H locs ls h1 h2 h3 h4 h5 => row H locs _ _ ls h1 h4 h5 (fun H1 locs1 q1 q2 => ?_)⟩
  have := hg.2 H1 locs1 ls q1 (by rw [e1]; exact h2) (by rw [e2]; exact h3) q2 h5
  rw [e1, e2] at this
  exact this
theorem zq_iconst (hC : zv_C p R s m args meth c cc nL on ini b x cA dD xs d n0 sl0 o) {i : Int} {v : Int32} (hv : Int32.ofInt i = v) (hd : decode cc pc = .ok (.iconst i, 1)) {k : zv_K} (hk : ∀ pc lv st S D, k pc lv st S D = some o → zv_G p l e R s m args below meth c Q nL b x cA dD n0 sl0 o pc lv st S D) (h : k (pc + 1) lv (.int v :: st) S D = some o) : zv_G p l e R s m args below meth c Q nL b x cA dD n0 sl0 o pc lv st S D := by
  exact zq_step (fun H locs cells slots ls _ w => lv_iconst hC.1 hC.2.1 hd hv w) (hk _ _ _ _ _ h)
theorem zq_bipush (hC : zv_C p R s m args meth c cc nL on ini b x cA dD xs d n0 sl0 o) {i : Int} {v : Int32} (hv : (Int8.ofInt i).toInt32 = v) (hd : decode cc pc = .ok (.bipush i, 2)) {k : zv_K} (hk : ∀ pc lv st S D, k pc lv st S D = some o → zv_G p l e R s m args below meth c Q nL b x cA dD n0 sl0 o pc lv st S D) (h : k (pc + 2) lv (.int v :: st) S D = some o) : zv_G p l e R s m args below meth c Q nL b x cA dD n0 sl0 o pc lv st S D := by
  exact zq_step (fun H locs cells slots ls _ w => lv_bipush hC.1 hC.2.1 hd hv w) (hk _ _ _ _ _ h)
theorem zq_sipush (hC : zv_C p R s m args meth c cc nL on ini b x cA dD xs d n0 sl0 o) {i : Int} {v : Int32} (hv : (Int16.ofInt i).toInt32 = v) (hd : decode cc pc = .ok (.sipush i, 3)) {k : zv_K} (hk : ∀ pc lv st S D, k pc lv st S D = some o → zv_G p l e R s m args below meth c Q nL b x cA dD n0 sl0 o pc lv st S D) (h : k (pc + 3) lv (.int v :: st) S D = some o) : zv_G p l e R s m args below meth c Q nL b x cA dD n0 sl0 o pc lv st S D := by
  exact zq_step (fun H locs cells slots ls _ w => lv_sipush hC.1 hC.2.1 hd hv w) (hk _ _ _ _ _ h)
theorem zq_ldcw (hC : zv_C p R s m args meth c cc nL on ini b x cA dD xs d n0 sl0 o) {i : Nat} {v : Int32} (hv : Cond.constant (zn_own on) i v ∈ zgw) (hd : decode cc pc = .ok (.ldc_w i, 3)) {k : zv_K} (hk : ∀ pc lv st S D, k pc lv st S D = some o → zv_G p l e R s m args below meth c Q nL b x cA dD n0 sl0 o pc lv st S D) (h : k (pc + 3) lv (.int v :: st) S D = some o) : zv_G p l e R s m args below meth c Q nL b x cA dD n0 sl0 o pc lv st S D := by
  exact zq_step (fun H locs cells slots ls _ w => lv_ldcw hC.1 hC.2.1 hC.2.2.2.1 (hC.2.2.2.2.1 _ hv) hd w) (hk _ _ _ _ _ h)
theorem zq_ldc2 (hC : zv_C p R s m args meth c cc nL on ini b x cA dD xs d n0 sl0 o) {i : Nat} {v : Int64} (hv : Cond.constantLong (zn_own on) i v ∈ zgw) (hd : decode cc pc = .ok (.ldc2_w i, 3)) {k : zv_K} (hk : ∀ pc lv st S D, k pc lv st S D = some o → zv_G p l e R s m args below meth c Q nL b x cA dD n0 sl0 o pc lv st S D) (h : k (pc + 3) lv (.long v :: st) S D = some o) : zv_G p l e R s m args below meth c Q nL b x cA dD n0 sl0 o pc lv st S D := by
  exact zq_step (fun H locs cells slots ls _ w => lv_ldc2 hC.1 hC.2.1 hC.2.2.2.1 (hC.2.2.2.2.1 _ hv) hd w) (hk _ _ _ _ _ h)
theorem zq_lconst (hC : zv_C p R s m args meth c cc nL on ini b x cA dD xs d n0 sl0 o) {i : Fin 2} {v : Int64} (hv : Int64.ofNat (i : Nat) = v) (hd : decode cc pc = .ok (.lconst i, 1)) {k : zv_K} (hk : ∀ pc lv st S D, k pc lv st S D = some o → zv_G p l e R s m args below meth c Q nL b x cA dD n0 sl0 o pc lv st S D) (h : k (pc + 1) lv (.long v :: st) S D = some o) : zv_G p l e R s m args below meth c Q nL b x cA dD n0 sl0 o pc lv st S D := by
  exact zq_step (fun H locs cells slots ls _ w => lv_lconst hC.1 hC.2.1 hd hv w) (hk _ _ _ _ _ h)
theorem zq_iload (hC : zv_C p R s m args meth c cc nL on ini b x cA dD xs d n0 sl0 o) {i : Nat} (hd : decode cc pc = .ok (.iload i, 2)) {k : zv_K} (hk : ∀ pc lv st S D, k pc lv st S D = some o → zv_G p l e R s m args below meth c Q nL b x cA dD n0 sl0 o pc lv st S D) (h : zv_li (zv_at lv i) (fun v => k (pc + 2) lv (.int v :: st) S D) = some o) : zv_G p l e R s m args below meth c Q nL b x cA dD n0 sl0 o pc lv st S D := by
  unfold zv_li at h; split at h
  · rename_i v hv
    exact zq_step (fun H locs cells slots ls hl w => lv_iload hC.1 hC.2.1 hd (hl.2.2 i _ ⟨hv, (fun q => by cases q), (fun q => by cases q)⟩) w) (hk _ _ _ _ _ h)
  · cases h
theorem zq_iloadn (hC : zv_C p R s m args meth c cc nL on ini b x cA dD xs d n0 sl0 o) {j : Fin 4} {i : Nat} (hj : (j : Nat) = i) (hd : decode cc pc = .ok (.iload_n j, 1)) {k : zv_K} (hk : ∀ pc lv st S D, k pc lv st S D = some o → zv_G p l e R s m args below meth c Q nL b x cA dD n0 sl0 o pc lv st S D) (h : zv_li (zv_at lv i) (fun v => k (pc + 1) lv (.int v :: st) S D) = some o) : zv_G p l e R s m args below meth c Q nL b x cA dD n0 sl0 o pc lv st S D := by
  unfold zv_li at h; split at h
  · rename_i v hv
    exact zq_step (fun H locs cells slots ls hl w => lv_iload_n hC.1 hC.2.1 hd hj (hl.2.2 i _ ⟨hv, (fun q => by cases q), (fun q => by cases q)⟩) w) (hk _ _ _ _ _ h)
  · cases h
theorem zq_aload (hC : zv_C p R s m args meth c cc nL on ini b x cA dD xs d n0 sl0 o) {i : Nat} (hd : decode cc pc = .ok (.aload i, 2)) {k : zv_K} (hk : ∀ pc lv st S D, k pc lv st S D = some o → zv_G p l e R s m args below meth c Q nL b x cA dD n0 sl0 o pc lv st S D) (h : zv_la (zv_at lv i) (fun v => k (pc + 2) lv (.ref v :: st) S D) = some o) : zv_G p l e R s m args below meth c Q nL b x cA dD n0 sl0 o pc lv st S D := by
  unfold zv_la at h; split at h
  · rename_i v hv
    exact zq_step (fun H locs cells slots ls hl w => lv_aload hC.1 hC.2.1 hd (hl.2.2 i _ ⟨hv, (fun q => by cases q), (fun q => by cases q)⟩) w) (hk _ _ _ _ _ h)
  · cases h
theorem zq_aloadn (hC : zv_C p R s m args meth c cc nL on ini b x cA dD xs d n0 sl0 o) {j : Fin 4} {i : Nat} (hj : (j : Nat) = i) (hd : decode cc pc = .ok (.aload_n j, 1)) {k : zv_K} (hk : ∀ pc lv st S D, k pc lv st S D = some o → zv_G p l e R s m args below meth c Q nL b x cA dD n0 sl0 o pc lv st S D) (h : zv_la (zv_at lv i) (fun v => k (pc + 1) lv (.ref v :: st) S D) = some o) : zv_G p l e R s m args below meth c Q nL b x cA dD n0 sl0 o pc lv st S D := by
  unfold zv_la at h; split at h
  · rename_i v hv
    exact zq_step (fun H locs cells slots ls hl w => lv_aload_n hC.1 hC.2.1 hd hj (hl.2.2 i _ ⟨hv, (fun q => by cases q), (fun q => by cases q)⟩) w) (hk _ _ _ _ _ h)
  · cases h
theorem zq_lload (hC : zv_C p R s m args meth c cc nL on ini b x cA dD xs d n0 sl0 o) {i : Nat} (hd : decode cc pc = .ok (.lload i, 2)) {k : zv_K} (hk : ∀ pc lv st S D, k pc lv st S D = some o → zv_G p l e R s m args below meth c Q nL b x cA dD n0 sl0 o pc lv st S D) (h : zv_ll (zv_at lv i) (zv_at lv (i + 1)) (fun v => k (pc + 2) lv (.long v :: st) S D) = some o) : zv_G p l e R s m args below meth c Q nL b x cA dD n0 sl0 o pc lv st S D := by
  unfold zv_ll at h; split at h
  · rename_i v hv
    split at h
    · rename_i hv2
      exact zq_step (fun H locs cells slots ls hl w => lv_lload hC.1 hC.2.1 hd (hl.2.2 i _ ⟨hv, (fun q => by cases q), (fun _ => hv2)⟩) w) (hk _ _ _ _ _ h)
    · cases h
  · cases h
theorem zq_lloadn (hC : zv_C p R s m args meth c cc nL on ini b x cA dD xs d n0 sl0 o) {j : Fin 4} {i : Nat} (hj : (j : Nat) = i) (hd : decode cc pc = .ok (.lload_n j, 1)) {k : zv_K} (hk : ∀ pc lv st S D, k pc lv st S D = some o → zv_G p l e R s m args below meth c Q nL b x cA dD n0 sl0 o pc lv st S D) (h : zv_ll (zv_at lv i) (zv_at lv (i + 1)) (fun v => k (pc + 1) lv (.long v :: st) S D) = some o) : zv_G p l e R s m args below meth c Q nL b x cA dD n0 sl0 o pc lv st S D := by
  unfold zv_ll at h; split at h
  · rename_i v hv
    split at h
    · rename_i hv2
      exact zq_step (fun H locs cells slots ls hl w => lv_lload_n hC.1 hC.2.1 hd hj (hl.2.2 i _ ⟨hv, (fun q => by cases q), (fun _ => hv2)⟩) w) (hk _ _ _ _ _ h)
    · cases h
  · cases h
theorem zq_istore (hC : zv_C p R s m args meth c cc nL on ini b x cA dD xs d n0 sl0 o) {i : Nat} (hn : i < nL) (hd : decode cc pc = .ok (.istore i, 2)) {k : zv_K} (hk : ∀ pc lv st S D, k pc lv st S D = some o → zv_G p l e R s m args below meth c Q nL b x cA dD n0 sl0 o pc lv st S D) (h : zv_i1 st (fun v r => k (pc + 2) (zv_s1 lv i (.int v)) r S D) = some o) : zv_G p l e R s m args below meth c Q nL b x cA dD n0 sl0 o pc lv st S D := by
  unfold zv_i1 at h; split at h
  · rename_i v r
    exact zq_loc (fun H locs cells slots ls hl w => lv_istore hC.1 hC.2.1 hd (zv_lr_has hl) hn rfl (fun ls' hh => w ls' (zv_lr_s1 (v := .int v) rfl (fun q => by cases q) hh))) (hk _ _ _ _ _ h)
  · cases h
theorem zq_istoren (hC : zv_C p R s m args meth c cc nL on ini b x cA dD xs d n0 sl0 o) {j : Fin 4} {i : Nat} (hj : (j : Nat) = i) (hn : i < nL) (hd : decode cc pc = .ok (.istore_n j, 1)) {k : zv_K} (hk : ∀ pc lv st S D, k pc lv st S D = some o → zv_G p l e R s m args below meth c Q nL b x cA dD n0 sl0 o pc lv st S D) (h : zv_i1 st (fun v r => k (pc + 1) (zv_s1 lv i (.int v)) r S D) = some o) : zv_G p l e R s m args below meth c Q nL b x cA dD n0 sl0 o pc lv st S D := by
  unfold zv_i1 at h; split at h
  · rename_i v r
    exact zq_loc (fun H locs cells slots ls hl w => lv_istore_n hC.1 hC.2.1 hd hj (zv_lr_has hl) hn rfl (fun ls' hh => w ls' (zv_lr_s1 (v := .int v) rfl (fun q => by cases q) hh))) (hk _ _ _ _ _ h)
  · cases h
theorem zq_astoren (hC : zv_C p R s m args meth c cc nL on ini b x cA dD xs d n0 sl0 o) {j : Fin 4} {i : Nat} (hj : (j : Nat) = i) (hn : i < nL) (hd : decode cc pc = .ok (.astore_n j, 1)) {k : zv_K} (hk : ∀ pc lv st S D, k pc lv st S D = some o → zv_G p l e R s m args below meth c Q nL b x cA dD n0 sl0 o pc lv st S D) (h : zv_a1 st (fun v r => k (pc + 1) (zv_s1 lv i (.ref v)) r S D) = some o) : zv_G p l e R s m args below meth c Q nL b x cA dD n0 sl0 o pc lv st S D := by
  unfold zv_a1 at h; split at h
  · rename_i v r
    exact zq_loc (fun H locs cells slots ls hl w => lv_astore_n hC.1 hC.2.1 hd hj (zv_lr_has hl) hn rfl (fun ls' hh => w ls' (zv_lr_s1 (v := .ref v) rfl (fun q => by cases q) hh))) (hk _ _ _ _ _ h)
  · cases h
theorem zq_lstore (hC : zv_C p R s m args meth c cc nL on ini b x cA dD xs d n0 sl0 o) {i : Nat} (hn : i + 1 < nL) (hd : decode cc pc = .ok (.lstore i, 2)) {k : zv_K} (hk : ∀ pc lv st S D, k pc lv st S D = some o → zv_G p l e R s m args below meth c Q nL b x cA dD n0 sl0 o pc lv st S D) (h : zv_l1 st (fun v r => k (pc + 2) (zv_s2 lv i (.long v)) r S D) = some o) : zv_G p l e R s m args below meth c Q nL b x cA dD n0 sl0 o pc lv st S D := by
  unfold zv_l1 at h; split at h
  · rename_i v r
    exact zq_loc (fun H locs cells slots ls hl w => lv_lstore hC.1 hC.2.1 hd (zv_lr_has hl) hn rfl (fun ls' hh => w ls' (zv_lr_s2 hh))) (hk _ _ _ _ _ h)
  · cases h
theorem zq_lstoren (hC : zv_C p R s m args meth c cc nL on ini b x cA dD xs d n0 sl0 o) {j : Fin 4} {i : Nat} (hj : (j : Nat) = i) (hn : i + 1 < nL) (hd : decode cc pc = .ok (.lstore_n j, 1)) {k : zv_K} (hk : ∀ pc lv st S D, k pc lv st S D = some o → zv_G p l e R s m args below meth c Q nL b x cA dD n0 sl0 o pc lv st S D) (h : zv_l1 st (fun v r => k (pc + 1) (zv_s2 lv i (.long v)) r S D) = some o) : zv_G p l e R s m args below meth c Q nL b x cA dD n0 sl0 o pc lv st S D := by
  unfold zv_l1 at h; split at h
  · rename_i v r
    exact zq_loc (fun H locs cells slots ls hl w => lv_lstore_n hC.1 hC.2.1 hd hj (zv_lr_has hl) hn rfl (fun ls' hh => w ls' (zv_lr_s2 hh))) (hk _ _ _ _ _ h)
  · cases h
theorem zq_iinc (hC : zv_C p R s m args meth c cc nL on ini b x cA dD xs d n0 sl0 o) {i : Nat} {z : Int} {v : Int32} (hv : Int32.ofInt z = v) (hn : i < nL) (hd : decode cc pc = .ok (.iinc i z, 3)) {k : zv_K} (hk : ∀ pc lv st S D, k pc lv st S D = some o → zv_G p l e R s m args below meth c Q nL b x cA dD n0 sl0 o pc lv st S D) (h : zv_li (zv_at lv i) (fun w => k (pc + 3) (zv_s1 lv i (.int (w + v))) st S D) = some o) : zv_G p l e R s m args below meth c Q nL b x cA dD n0 sl0 o pc lv st S D := by
  unfold zv_li at h; split at h
  · rename_i w hw
    have hm : (i, Value.int w) ∈ zv_pr b x lv := zv_pr_mem (v := .int w) ⟨hw, (fun q => by cases q), (fun q => by cases q)⟩
    obtain ⟨j, hj⟩ := List.getElem?_of_mem hm
    exact zq_loc (fun H locs cells slots ls hl w' => lv_iinc (v := w + v) hC.1 hC.2.1 hd (zv_lr_has hl) hj (by rw [hv]) hn rfl (fun ls' hh => w' ls' (zv_lr_s1 (v := .int (w + v)) rfl (fun q => by cases q) hh))) (hk _ _ _ _ _ h)
  · cases h
theorem zq_iadd (hC : zv_C p R s m args meth c cc nL on ini b x cA dD xs d n0 sl0 o) (hd : decode cc pc = .ok (.iadd, 1)) {k : zv_K} (hk : ∀ pc lv st S D, k pc lv st S D = some o → zv_G p l e R s m args below meth c Q nL b x cA dD n0 sl0 o pc lv st S D) (h : zv_i2 st (fun a b2 r => k (pc + 1) lv (.int (a + b2) :: r) S D) = some o) : zv_G p l e R s m args below meth c Q nL b x cA dD n0 sl0 o pc lv st S D := by
  unfold zv_i2 at h; split at h
  · exact zq_step (fun H locs cells slots ls _ w => lv_iadd hC.1 hC.2.1 hd w) (hk _ _ _ _ _ h)
  · cases h
theorem zq_isub (hC : zv_C p R s m args meth c cc nL on ini b x cA dD xs d n0 sl0 o) (hd : decode cc pc = .ok (.isub, 1)) {k : zv_K} (hk : ∀ pc lv st S D, k pc lv st S D = some o → zv_G p l e R s m args below meth c Q nL b x cA dD n0 sl0 o pc lv st S D) (h : zv_i2 st (fun a b2 r => k (pc + 1) lv (.int (a - b2) :: r) S D) = some o) : zv_G p l e R s m args below meth c Q nL b x cA dD n0 sl0 o pc lv st S D := by
  unfold zv_i2 at h; split at h
  · exact zq_step (fun H locs cells slots ls _ w => lv_isub hC.1 hC.2.1 hd w) (hk _ _ _ _ _ h)
  · cases h
theorem zq_imul (hC : zv_C p R s m args meth c cc nL on ini b x cA dD xs d n0 sl0 o) (hd : decode cc pc = .ok (.imul, 1)) {k : zv_K} (hk : ∀ pc lv st S D, k pc lv st S D = some o → zv_G p l e R s m args below meth c Q nL b x cA dD n0 sl0 o pc lv st S D) (h : zv_i2 st (fun a b2 r => k (pc + 1) lv (.int (a * b2) :: r) S D) = some o) : zv_G p l e R s m args below meth c Q nL b x cA dD n0 sl0 o pc lv st S D := by
  unfold zv_i2 at h; split at h
  · exact zq_step (fun H locs cells slots ls _ w => lv_imul hC.1 hC.2.1 hd w) (hk _ _ _ _ _ h)
  · cases h
theorem zq_iand (hC : zv_C p R s m args meth c cc nL on ini b x cA dD xs d n0 sl0 o) (hd : decode cc pc = .ok (.iand, 1)) {k : zv_K} (hk : ∀ pc lv st S D, k pc lv st S D = some o → zv_G p l e R s m args below meth c Q nL b x cA dD n0 sl0 o pc lv st S D) (h : zv_i2 st (fun a b2 r => k (pc + 1) lv (.int (a &&& b2) :: r) S D) = some o) : zv_G p l e R s m args below meth c Q nL b x cA dD n0 sl0 o pc lv st S D := by
  unfold zv_i2 at h; split at h
  · exact zq_step (fun H locs cells slots ls _ w => lv_iand hC.1 hC.2.1 hd w) (hk _ _ _ _ _ h)
  · cases h
theorem zq_ior (hC : zv_C p R s m args meth c cc nL on ini b x cA dD xs d n0 sl0 o) (hd : decode cc pc = .ok (.ior, 1)) {k : zv_K} (hk : ∀ pc lv st S D, k pc lv st S D = some o → zv_G p l e R s m args below meth c Q nL b x cA dD n0 sl0 o pc lv st S D) (h : zv_i2 st (fun a b2 r => k (pc + 1) lv (.int (a ||| b2) :: r) S D) = some o) : zv_G p l e R s m args below meth c Q nL b x cA dD n0 sl0 o pc lv st S D := by
  unfold zv_i2 at h; split at h
  · exact zq_step (fun H locs cells slots ls _ w => lv_ior hC.1 hC.2.1 hd w) (hk _ _ _ _ _ h)
  · cases h
theorem zq_ixor (hC : zv_C p R s m args meth c cc nL on ini b x cA dD xs d n0 sl0 o) (hd : decode cc pc = .ok (.ixor, 1)) {k : zv_K} (hk : ∀ pc lv st S D, k pc lv st S D = some o → zv_G p l e R s m args below meth c Q nL b x cA dD n0 sl0 o pc lv st S D) (h : zv_i2 st (fun a b2 r => k (pc + 1) lv (.int (a ^^^ b2) :: r) S D) = some o) : zv_G p l e R s m args below meth c Q nL b x cA dD n0 sl0 o pc lv st S D := by
  unfold zv_i2 at h; split at h
  · exact zq_step (fun H locs cells slots ls _ w => lv_ixor hC.1 hC.2.1 hd w) (hk _ _ _ _ _ h)
  · cases h
theorem zq_ishl (hC : zv_C p R s m args meth c cc nL on ini b x cA dD xs d n0 sl0 o) (hd : decode cc pc = .ok (.ishl, 1)) {k : zv_K} (hk : ∀ pc lv st S D, k pc lv st S D = some o → zv_G p l e R s m args below meth c Q nL b x cA dD n0 sl0 o pc lv st S D) (h : zv_i2 st (fun a b2 r => k (pc + 1) lv (.int (a <<< (b2 &&& 31)) :: r) S D) = some o) : zv_G p l e R s m args below meth c Q nL b x cA dD n0 sl0 o pc lv st S D := by
  unfold zv_i2 at h; split at h
  · exact zq_step (fun H locs cells slots ls _ w => lv_ishl hC.1 hC.2.1 hd w) (hk _ _ _ _ _ h)
  · cases h
theorem zq_ishr (hC : zv_C p R s m args meth c cc nL on ini b x cA dD xs d n0 sl0 o) (hd : decode cc pc = .ok (.ishr, 1)) {k : zv_K} (hk : ∀ pc lv st S D, k pc lv st S D = some o → zv_G p l e R s m args below meth c Q nL b x cA dD n0 sl0 o pc lv st S D) (h : zv_i2 st (fun a b2 r => k (pc + 1) lv (.int (a >>> (b2 &&& 31)) :: r) S D) = some o) : zv_G p l e R s m args below meth c Q nL b x cA dD n0 sl0 o pc lv st S D := by
  unfold zv_i2 at h; split at h
  · exact zq_step (fun H locs cells slots ls _ w => lv_ishr hC.1 hC.2.1 hd w) (hk _ _ _ _ _ h)
  · cases h
theorem zq_iushr (hC : zv_C p R s m args meth c cc nL on ini b x cA dD xs d n0 sl0 o) (hd : decode cc pc = .ok (.iushr, 1)) {k : zv_K} (hk : ∀ pc lv st S D, k pc lv st S D = some o → zv_G p l e R s m args below meth c Q nL b x cA dD n0 sl0 o pc lv st S D) (h : zv_i2 st (fun a b2 r => k (pc + 1) lv (.int (a.toUInt32 >>> (b2.toUInt32 &&& Int32.toUInt32 31)).toInt32 :: r) S D) = some o) : zv_G p l e R s m args below meth c Q nL b x cA dD n0 sl0 o pc lv st S D := by
  unfold zv_i2 at h; split at h
  · exact zq_step (fun H locs cells slots ls _ w => lv_iushr hC.1 hC.2.1 hd rfl w) (hk _ _ _ _ _ h)
  · cases h
theorem zq_idiv (hC : zv_C p R s m args meth c cc nL on ini b x cA dD xs d n0 sl0 o) (hd : decode cc pc = .ok (.idiv, 1)) {k : zv_K} (hk : ∀ pc lv st S D, k pc lv st S D = some o → zv_G p l e R s m args below meth c Q nL b x cA dD n0 sl0 o pc lv st S D) (h : zv_i2 st (fun a b2 r => if b2 = 0 then none else k (pc + 1) lv (.int (a / b2) :: r) S D) = some o) : zv_G p l e R s m args below meth c Q nL b x cA dD n0 sl0 o pc lv st S D := by
  unfold zv_i2 at h; split at h
  · dsimp only at h; split at h
    · cases h
    · rename_i hz
      exact zq_step (fun H locs cells slots ls _ w => lv_idiv hC.1 hC.2.1 hd hz w) (hk _ _ _ _ _ h)
  · cases h
theorem zq_irem (hC : zv_C p R s m args meth c cc nL on ini b x cA dD xs d n0 sl0 o) (hd : decode cc pc = .ok (.irem, 1)) {k : zv_K} (hk : ∀ pc lv st S D, k pc lv st S D = some o → zv_G p l e R s m args below meth c Q nL b x cA dD n0 sl0 o pc lv st S D) (h : zv_i2 st (fun a b2 r => if b2 = 0 then none else k (pc + 1) lv (.int (a - a / b2 * b2) :: r) S D) = some o) : zv_G p l e R s m args below meth c Q nL b x cA dD n0 sl0 o pc lv st S D := by
  unfold zv_i2 at h; split at h
  · dsimp only at h; split at h
    · cases h
    · rename_i hz
      exact zq_step (fun H locs cells slots ls _ w => lv_irem hC.1 hC.2.1 hd hz w) (hk _ _ _ _ _ h)
  · cases h
theorem zq_ineg (hC : zv_C p R s m args meth c cc nL on ini b x cA dD xs d n0 sl0 o) (hd : decode cc pc = .ok (.ineg, 1)) {k : zv_K} (hk : ∀ pc lv st S D, k pc lv st S D = some o → zv_G p l e R s m args below meth c Q nL b x cA dD n0 sl0 o pc lv st S D) (h : zv_i1 st (fun a r => k (pc + 1) lv (.int (-a) :: r) S D) = some o) : zv_G p l e R s m args below meth c Q nL b x cA dD n0 sl0 o pc lv st S D := by
  unfold zv_i1 at h; split at h
  · exact zq_step (fun H locs cells slots ls _ w => lv_ineg hC.1 hC.2.1 hd w) (hk _ _ _ _ _ h)
  · cases h
theorem zq_ladd (hC : zv_C p R s m args meth c cc nL on ini b x cA dD xs d n0 sl0 o) (hd : decode cc pc = .ok (.ladd, 1)) {k : zv_K} (hk : ∀ pc lv st S D, k pc lv st S D = some o → zv_G p l e R s m args below meth c Q nL b x cA dD n0 sl0 o pc lv st S D) (h : zv_l2 st (fun a b2 r => k (pc + 1) lv (.long (a + b2) :: r) S D) = some o) : zv_G p l e R s m args below meth c Q nL b x cA dD n0 sl0 o pc lv st S D := by
  unfold zv_l2 at h; split at h
  · exact zq_step (fun H locs cells slots ls _ w => lv_ladd hC.1 hC.2.1 hd w) (hk _ _ _ _ _ h)
  · cases h
theorem zq_lsub (hC : zv_C p R s m args meth c cc nL on ini b x cA dD xs d n0 sl0 o) (hd : decode cc pc = .ok (.lsub, 1)) {k : zv_K} (hk : ∀ pc lv st S D, k pc lv st S D = some o → zv_G p l e R s m args below meth c Q nL b x cA dD n0 sl0 o pc lv st S D) (h : zv_l2 st (fun a b2 r => k (pc + 1) lv (.long (a - b2) :: r) S D) = some o) : zv_G p l e R s m args below meth c Q nL b x cA dD n0 sl0 o pc lv st S D := by
  unfold zv_l2 at h; split at h
  · exact zq_step (fun H locs cells slots ls _ w => lv_lsub hC.1 hC.2.1 hd w) (hk _ _ _ _ _ h)
  · cases h
theorem zq_lmul (hC : zv_C p R s m args meth c cc nL on ini b x cA dD xs d n0 sl0 o) (hd : decode cc pc = .ok (.lmul, 1)) {k : zv_K} (hk : ∀ pc lv st S D, k pc lv st S D = some o → zv_G p l e R s m args below meth c Q nL b x cA dD n0 sl0 o pc lv st S D) (h : zv_l2 st (fun a b2 r => k (pc + 1) lv (.long (a * b2) :: r) S D) = some o) : zv_G p l e R s m args below meth c Q nL b x cA dD n0 sl0 o pc lv st S D := by
  unfold zv_l2 at h; split at h
  · exact zq_step (fun H locs cells slots ls _ w => lv_lmul hC.1 hC.2.1 hd w) (hk _ _ _ _ _ h)
  · cases h
theorem zq_land (hC : zv_C p R s m args meth c cc nL on ini b x cA dD xs d n0 sl0 o) (hd : decode cc pc = .ok (.land, 1)) {k : zv_K} (hk : ∀ pc lv st S D, k pc lv st S D = some o → zv_G p l e R s m args below meth c Q nL b x cA dD n0 sl0 o pc lv st S D) (h : zv_l2 st (fun a b2 r => k (pc + 1) lv (.long (a &&& b2) :: r) S D) = some o) : zv_G p l e R s m args below meth c Q nL b x cA dD n0 sl0 o pc lv st S D := by
  unfold zv_l2 at h; split at h
  · exact zq_step (fun H locs cells slots ls _ w => lv_land hC.1 hC.2.1 hd w) (hk _ _ _ _ _ h)
  · cases h
theorem zq_lor (hC : zv_C p R s m args meth c cc nL on ini b x cA dD xs d n0 sl0 o) (hd : decode cc pc = .ok (.lor, 1)) {k : zv_K} (hk : ∀ pc lv st S D, k pc lv st S D = some o → zv_G p l e R s m args below meth c Q nL b x cA dD n0 sl0 o pc lv st S D) (h : zv_l2 st (fun a b2 r => k (pc + 1) lv (.long (a ||| b2) :: r) S D) = some o) : zv_G p l e R s m args below meth c Q nL b x cA dD n0 sl0 o pc lv st S D := by
  unfold zv_l2 at h; split at h
  · exact zq_step (fun H locs cells slots ls _ w => lv_lor hC.1 hC.2.1 hd w) (hk _ _ _ _ _ h)
  · cases h
theorem zq_ldiv (hC : zv_C p R s m args meth c cc nL on ini b x cA dD xs d n0 sl0 o) (hd : decode cc pc = .ok (.ldiv, 1)) {k : zv_K} (hk : ∀ pc lv st S D, k pc lv st S D = some o → zv_G p l e R s m args below meth c Q nL b x cA dD n0 sl0 o pc lv st S D) (h : zv_l2 st (fun a b2 r => if b2 = 0 then none else k (pc + 1) lv (.long (a / b2) :: r) S D) = some o) : zv_G p l e R s m args below meth c Q nL b x cA dD n0 sl0 o pc lv st S D := by
  unfold zv_l2 at h; split at h
  · dsimp only at h; split at h
    · cases h
    · rename_i hz
      exact zq_step (fun H locs cells slots ls _ w => lv_ldiv hC.1 hC.2.1 hd hz w) (hk _ _ _ _ _ h)
  · cases h
theorem zq_lrem (hC : zv_C p R s m args meth c cc nL on ini b x cA dD xs d n0 sl0 o) (hd : decode cc pc = .ok (.lrem, 1)) {k : zv_K} (hk : ∀ pc lv st S D, k pc lv st S D = some o → zv_G p l e R s m args below meth c Q nL b x cA dD n0 sl0 o pc lv st S D) (h : zv_l2 st (fun a b2 r => if b2 = 0 then none else k (pc + 1) lv (.long (a - a / b2 * b2) :: r) S D) = some o) : zv_G p l e R s m args below meth c Q nL b x cA dD n0 sl0 o pc lv st S D := by
  unfold zv_l2 at h; split at h
  · dsimp only at h; split at h
    · cases h
    · rename_i hz
      exact zq_step (fun H locs cells slots ls _ w => lv_lrem hC.1 hC.2.1 hd hz w) (hk _ _ _ _ _ h)
  · cases h
theorem zq_lcmp (hC : zv_C p R s m args meth c cc nL on ini b x cA dD xs d n0 sl0 o) (hd : decode cc pc = .ok (.lcmp, 1)) {k : zv_K} (hk : ∀ pc lv st S D, k pc lv st S D = some o → zv_G p l e R s m args below meth c Q nL b x cA dD n0 sl0 o pc lv st S D) (h : zv_l2 st (fun a b2 r => k (pc + 1) lv (.int (lg_cmp a b2) :: r) S D) = some o) : zv_G p l e R s m args below meth c Q nL b x cA dD n0 sl0 o pc lv st S D := by
  unfold zv_l2 at h; split at h
  · exact zq_step (fun H locs cells slots ls _ w => W.lcmp hC.1 hC.2.1 hd w) (hk _ _ _ _ _ h)
  · cases h
theorem zq_lshl (hC : zv_C p R s m args meth c cc nL on ini b x cA dD xs d n0 sl0 o) (hd : decode cc pc = .ok (.lshl, 1)) {k : zv_K} (hk : ∀ pc lv st S D, k pc lv st S D = some o → zv_G p l e R s m args below meth c Q nL b x cA dD n0 sl0 o pc lv st S D) (h : zv_i1 st (fun b2 r => zv_l1 r fun a r => k (pc + 1) lv (.long (a <<< (b2.toInt64 &&& 63)) :: r) S D) = some o) : zv_G p l e R s m args below meth c Q nL b x cA dD n0 sl0 o pc lv st S D := by
  unfold zv_i1 at h; split at h
  · dsimp only at h; unfold zv_l1 at h; split at h
    · exact zq_step (fun H locs cells slots ls _ w => lv_lshl hC.1 hC.2.1 hd rfl w) (hk _ _ _ _ _ h)
    · cases h
  · cases h
theorem zq_lushr (hC : zv_C p R s m args meth c cc nL on ini b x cA dD xs d n0 sl0 o) (hd : decode cc pc = .ok (.lushr, 1)) {k : zv_K} (hk : ∀ pc lv st S D, k pc lv st S D = some o → zv_G p l e R s m args below meth c Q nL b x cA dD n0 sl0 o pc lv st S D) (h : zv_i1 st (fun b2 r => zv_l1 r fun a r => k (pc + 1) lv (.long (a.toUInt64 >>> (b2.toInt64.toUInt64 &&& Int64.toUInt64 63)).toInt64 :: r) S D) = some o) : zv_G p l e R s m args below meth c Q nL b x cA dD n0 sl0 o pc lv st S D := by
  unfold zv_i1 at h; split at h
  · dsimp only at h; unfold zv_l1 at h; split at h
    · exact zq_step (fun H locs cells slots ls _ w => lv_lushr hC.1 hC.2.1 hd rfl w) (hk _ _ _ _ _ h)
    · cases h
  · cases h
theorem zq_i2l (hC : zv_C p R s m args meth c cc nL on ini b x cA dD xs d n0 sl0 o) (hd : decode cc pc = .ok (.i2l, 1)) {k : zv_K} (hk : ∀ pc lv st S D, k pc lv st S D = some o → zv_G p l e R s m args below meth c Q nL b x cA dD n0 sl0 o pc lv st S D) (h : zv_i1 st (fun a r => k (pc + 1) lv (.long a.toInt64 :: r) S D) = some o) : zv_G p l e R s m args below meth c Q nL b x cA dD n0 sl0 o pc lv st S D := by
  unfold zv_i1 at h; split at h
  · exact zq_step (fun H locs cells slots ls _ w => lv_i2l hC.1 hC.2.1 hd rfl w) (hk _ _ _ _ _ h)
  · cases h
theorem zq_l2i (hC : zv_C p R s m args meth c cc nL on ini b x cA dD xs d n0 sl0 o) (hd : decode cc pc = .ok (.l2i, 1)) {k : zv_K} (hk : ∀ pc lv st S D, k pc lv st S D = some o → zv_G p l e R s m args below meth c Q nL b x cA dD n0 sl0 o pc lv st S D) (h : zv_l1 st (fun a r => k (pc + 1) lv (.int a.toInt32 :: r) S D) = some o) : zv_G p l e R s m args below meth c Q nL b x cA dD n0 sl0 o pc lv st S D := by
  unfold zv_l1 at h; split at h
  · exact zq_step (fun H locs cells slots ls _ w => lv_l2i hC.1 hC.2.1 hd rfl w) (hk _ _ _ _ _ h)
  · cases h
theorem zq_i2c (hC : zv_C p R s m args meth c cc nL on ini b x cA dD xs d n0 sl0 o) (hd : decode cc pc = .ok (.i2c, 1)) {k : zv_K} (hk : ∀ pc lv st S D, k pc lv st S D = some o → zv_G p l e R s m args below meth c Q nL b x cA dD n0 sl0 o pc lv st S D) (h : zv_i1 st (fun a r => k (pc + 1) lv (.int (a.toUInt32 % 65536).toInt32 :: r) S D) = some o) : zv_G p l e R s m args below meth c Q nL b x cA dD n0 sl0 o pc lv st S D := by
  unfold zv_i1 at h; split at h
  · exact zq_step (fun H locs cells slots ls _ w => lv_i2c hC.1 hC.2.1 hd rfl w) (hk _ _ _ _ _ h)
  · cases h
theorem zq_dup (hC : zv_C p R s m args meth c cc nL on ini b x cA dD xs d n0 sl0 o) (hd : decode cc pc = .ok (.dup, 1)) {k : zv_K} (hk : ∀ pc lv st S D, k pc lv st S D = some o → zv_G p l e R s m args below meth c Q nL b x cA dD n0 sl0 o pc lv st S D) (h : zv_dp st (fun r => k (pc + 1) lv r S D) = some o) : zv_G p l e R s m args below meth c Q nL b x cA dD n0 sl0 o pc lv st S D := by
  unfold zv_dp at h; split at h
  · exact zq_step (fun H locs cells slots ls _ w => lv_dup hC.1 hC.2.1 hd rfl w) (hk _ _ _ _ _ h)
  · exact zq_step (fun H locs cells slots ls _ w => lv_dup hC.1 hC.2.1 hd rfl w) (hk _ _ _ _ _ h)
  · cases h
theorem zq_dup2 (hC : zv_C p R s m args meth c cc nL on ini b x cA dD xs d n0 sl0 o) (hd : decode cc pc = .ok (.dup2, 1)) {k : zv_K} (hk : ∀ pc lv st S D, k pc lv st S D = some o → zv_G p l e R s m args below meth c Q nL b x cA dD n0 sl0 o pc lv st S D) (h : zv_ia st (fun i a r => k (pc + 1) lv (.int i :: .ref a :: .int i :: .ref a :: r) S D) = some o) : zv_G p l e R s m args below meth c Q nL b x cA dD n0 sl0 o pc lv st S D := by
  unfold zv_ia at h; split at h
  · exact zq_step (fun H locs cells slots ls _ w => lv_dup2_11 hC.1 hC.2.1 hd rfl rfl w) (hk _ _ _ _ _ h)
  · cases h
theorem zq_pop (hC : zv_C p R s m args meth c cc nL on ini b x cA dD xs d n0 sl0 o) (hd : decode cc pc = .ok (.pop, 1)) {k : zv_K} (hk : ∀ pc lv st S D, k pc lv st S D = some o → zv_G p l e R s m args below meth c Q nL b x cA dD n0 sl0 o pc lv st S D) (h : zv_i1 st (fun _ r => k (pc + 1) lv r S D) = some o) : zv_G p l e R s m args below meth c Q nL b x cA dD n0 sl0 o pc lv st S D := by
  unfold zv_i1 at h; split at h
  · exact zq_step (fun H locs cells slots ls _ w => lv_pop hC.1 hC.2.1 hd rfl w) (hk _ _ _ _ _ h)
  · cases h
theorem zq_if_eq (hC : zv_C p R s m args meth c cc nL on ini b x cA dD xs d n0 sl0 o) {off : Int} {tgt : Nat} (ht : (pc : Int) + off = (tgt : Int)) (hd : decode cc pc = .ok (.ifCond .eq off, 3)) {k : zv_K} (hk : ∀ pc lv st S D, k pc lv st S D = some o → zv_G p l e R s m args below meth c Q nL b x cA dD n0 sl0 o pc lv st S D) (h : zv_i1 st (fun a r => if a = 0 then k tgt lv r S D else k (pc + 3) lv r S D) = some o) : zv_G p l e R s m args below meth c Q nL b x cA dD n0 sl0 o pc lv st S D := by
  unfold zv_i1 at h; split at h
  · exact zq_br (fun H locs cells slots ls w1 w2 => lv_if_eq hC.1 hC.2.1 hd ht w1 w2) (hk _ _ _ _ _) (hk _ _ _ _ _) h
  · cases h
theorem zq_if_ne (hC : zv_C p R s m args meth c cc nL on ini b x cA dD xs d n0 sl0 o) {off : Int} {tgt : Nat} (ht : (pc : Int) + off = (tgt : Int)) (hd : decode cc pc = .ok (.ifCond .ne off, 3)) {k : zv_K} (hk : ∀ pc lv st S D, k pc lv st S D = some o → zv_G p l e R s m args below meth c Q nL b x cA dD n0 sl0 o pc lv st S D) (h : zv_i1 st (fun a r => if a = 0 then k (pc + 3) lv r S D else k tgt lv r S D) = some o) : zv_G p l e R s m args below meth c Q nL b x cA dD n0 sl0 o pc lv st S D := by
  unfold zv_i1 at h; split at h
  · exact zq_br (fun H locs cells slots ls w1 w2 => lv_if_ne hC.1 hC.2.1 hd ht w2 w1) (hk _ _ _ _ _) (hk _ _ _ _ _) h
  · cases h
theorem zq_if_lt (hC : zv_C p R s m args meth c cc nL on ini b x cA dD xs d n0 sl0 o) {off : Int} {tgt : Nat} (ht : (pc : Int) + off = (tgt : Int)) (hd : decode cc pc = .ok (.ifCond .lt off, 3)) {k : zv_K} (hk : ∀ pc lv st S D, k pc lv st S D = some o → zv_G p l e R s m args below meth c Q nL b x cA dD n0 sl0 o pc lv st S D) (h : zv_i1 st (fun a r => if a < 0 then k tgt lv r S D else k (pc + 3) lv r S D) = some o) : zv_G p l e R s m args below meth c Q nL b x cA dD n0 sl0 o pc lv st S D := by
  unfold zv_i1 at h; split at h
  · exact zq_br (fun H locs cells slots ls w1 w2 => lv_if_lt hC.1 hC.2.1 hd ht w1 w2) (hk _ _ _ _ _) (hk _ _ _ _ _) h
  · cases h
theorem zq_if_ge (hC : zv_C p R s m args meth c cc nL on ini b x cA dD xs d n0 sl0 o) {off : Int} {tgt : Nat} (ht : (pc : Int) + off = (tgt : Int)) (hd : decode cc pc = .ok (.ifCond .ge off, 3)) {k : zv_K} (hk : ∀ pc lv st S D, k pc lv st S D = some o → zv_G p l e R s m args below meth c Q nL b x cA dD n0 sl0 o pc lv st S D) (h : zv_i1 st (fun a r => if 0 ≤ a then k tgt lv r S D else k (pc + 3) lv r S D) = some o) : zv_G p l e R s m args below meth c Q nL b x cA dD n0 sl0 o pc lv st S D := by
  unfold zv_i1 at h; split at h
  · exact zq_br (fun H locs cells slots ls w1 w2 => lv_if_ge hC.1 hC.2.1 hd ht w1 w2) (hk _ _ _ _ _) (hk _ _ _ _ _) h
  · cases h
theorem zq_if_gt (hC : zv_C p R s m args meth c cc nL on ini b x cA dD xs d n0 sl0 o) {off : Int} {tgt : Nat} (ht : (pc : Int) + off = (tgt : Int)) (hd : decode cc pc = .ok (.ifCond .gt off, 3)) {k : zv_K} (hk : ∀ pc lv st S D, k pc lv st S D = some o → zv_G p l e R s m args below meth c Q nL b x cA dD n0 sl0 o pc lv st S D) (h : zv_i1 st (fun a r => if 0 < a then k tgt lv r S D else k (pc + 3) lv r S D) = some o) : zv_G p l e R s m args below meth c Q nL b x cA dD n0 sl0 o pc lv st S D := by
  unfold zv_i1 at h; split at h
  · exact zq_br (fun H locs cells slots ls w1 w2 => lv_if_gt hC.1 hC.2.1 hd ht w1 w2) (hk _ _ _ _ _) (hk _ _ _ _ _) h
  · cases h
theorem zq_if_le (hC : zv_C p R s m args meth c cc nL on ini b x cA dD xs d n0 sl0 o) {off : Int} {tgt : Nat} (ht : (pc : Int) + off = (tgt : Int)) (hd : decode cc pc = .ok (.ifCond .le off, 3)) {k : zv_K} (hk : ∀ pc lv st S D, k pc lv st S D = some o → zv_G p l e R s m args below meth c Q nL b x cA dD n0 sl0 o pc lv st S D) (h : zv_i1 st (fun a r => if a ≤ 0 then k tgt lv r S D else k (pc + 3) lv r S D) = some o) : zv_G p l e R s m args below meth c Q nL b x cA dD n0 sl0 o pc lv st S D := by
  unfold zv_i1 at h; split at h
  · exact zq_br (fun H locs cells slots ls w1 w2 => lv_if_le hC.1 hC.2.1 hd ht w1 w2) (hk _ _ _ _ _) (hk _ _ _ _ _) h
  · cases h
theorem zq_icmp_eq (hC : zv_C p R s m args meth c cc nL on ini b x cA dD xs d n0 sl0 o) {off : Int} {tgt : Nat} (ht : (pc : Int) + off = (tgt : Int)) (hd : decode cc pc = .ok (.if_icmp .eq off, 3)) {k : zv_K} (hk : ∀ pc lv st S D, k pc lv st S D = some o → zv_G p l e R s m args below meth c Q nL b x cA dD n0 sl0 o pc lv st S D) (h : zv_i2 st (fun a b2 r => if a = b2 then k tgt lv r S D else k (pc + 3) lv r S D) = some o) : zv_G p l e R s m args below meth c Q nL b x cA dD n0 sl0 o pc lv st S D := by
  unfold zv_i2 at h; split at h
  · exact zq_br (fun H locs cells slots ls w1 w2 => lv_icmp_eq hC.1 hC.2.1 hd ht w1 w2) (hk _ _ _ _ _) (hk _ _ _ _ _) h
  · cases h
theorem zq_icmp_ne (hC : zv_C p R s m args meth c cc nL on ini b x cA dD xs d n0 sl0 o) {off : Int} {tgt : Nat} (ht : (pc : Int) + off = (tgt : Int)) (hd : decode cc pc = .ok (.if_icmp .ne off, 3)) {k : zv_K} (hk : ∀ pc lv st S D, k pc lv st S D = some o → zv_G p l e R s m args below meth c Q nL b x cA dD n0 sl0 o pc lv st S D) (h : zv_i2 st (fun a b2 r => if a = b2 then k (pc + 3) lv r S D else k tgt lv r S D) = some o) : zv_G p l e R s m args below meth c Q nL b x cA dD n0 sl0 o pc lv st S D := by
  unfold zv_i2 at h; split at h
  · exact zq_br (fun H locs cells slots ls w1 w2 => lv_icmp_ne hC.1 hC.2.1 hd ht w2 w1) (hk _ _ _ _ _) (hk _ _ _ _ _) h
  · cases h
theorem zq_icmp_lt (hC : zv_C p R s m args meth c cc nL on ini b x cA dD xs d n0 sl0 o) {off : Int} {tgt : Nat} (ht : (pc : Int) + off = (tgt : Int)) (hd : decode cc pc = .ok (.if_icmp .lt off, 3)) {k : zv_K} (hk : ∀ pc lv st S D, k pc lv st S D = some o → zv_G p l e R s m args below meth c Q nL b x cA dD n0 sl0 o pc lv st S D) (h : zv_i2 st (fun a b2 r => if a < b2 then k tgt lv r S D else k (pc + 3) lv r S D) = some o) : zv_G p l e R s m args below meth c Q nL b x cA dD n0 sl0 o pc lv st S D := by
  unfold zv_i2 at h; split at h
  · exact zq_br (fun H locs cells slots ls w1 w2 => lv_icmp_lt hC.1 hC.2.1 hd ht w1 w2) (hk _ _ _ _ _) (hk _ _ _ _ _) h
  · cases h
theorem zq_icmp_ge (hC : zv_C p R s m args meth c cc nL on ini b x cA dD xs d n0 sl0 o) {off : Int} {tgt : Nat} (ht : (pc : Int) + off = (tgt : Int)) (hd : decode cc pc = .ok (.if_icmp .ge off, 3)) {k : zv_K} (hk : ∀ pc lv st S D, k pc lv st S D = some o → zv_G p l e R s m args below meth c Q nL b x cA dD n0 sl0 o pc lv st S D) (h : zv_i2 st (fun a b2 r => if b2 ≤ a then k tgt lv r S D else k (pc + 3) lv r S D) = some o) : zv_G p l e R s m args below meth c Q nL b x cA dD n0 sl0 o pc lv st S D := by
  unfold zv_i2 at h; split at h
  · exact zq_br (fun H locs cells slots ls w1 w2 => lv_icmp_ge hC.1 hC.2.1 hd ht w1 w2) (hk _ _ _ _ _) (hk _ _ _ _ _) h
  · cases h
theorem zq_icmp_gt (hC : zv_C p R s m args meth c cc nL on ini b x cA dD xs d n0 sl0 o) {off : Int} {tgt : Nat} (ht : (pc : Int) + off = (tgt : Int)) (hd : decode cc pc = .ok (.if_icmp .gt off, 3)) {k : zv_K} (hk : ∀ pc lv st S D, k pc lv st S D = some o → zv_G p l e R s m args below meth c Q nL b x cA dD n0 sl0 o pc lv st S D) (h : zv_i2 st (fun a b2 r => if b2 < a then k tgt lv r S D else k (pc + 3) lv r S D) = some o) : zv_G p l e R s m args below meth c Q nL b x cA dD n0 sl0 o pc lv st S D := by
  unfold zv_i2 at h; split at h
  · exact zq_br (fun H locs cells slots ls w1 w2 => lv_icmp_gt hC.1 hC.2.1 hd ht w1 w2) (hk _ _ _ _ _) (hk _ _ _ _ _) h
  · cases h
theorem zq_icmp_le (hC : zv_C p R s m args meth c cc nL on ini b x cA dD xs d n0 sl0 o) {off : Int} {tgt : Nat} (ht : (pc : Int) + off = (tgt : Int)) (hd : decode cc pc = .ok (.if_icmp .le off, 3)) {k : zv_K} (hk : ∀ pc lv st S D, k pc lv st S D = some o → zv_G p l e R s m args below meth c Q nL b x cA dD n0 sl0 o pc lv st S D) (h : zv_i2 st (fun a b2 r => if a ≤ b2 then k tgt lv r S D else k (pc + 3) lv r S D) = some o) : zv_G p l e R s m args below meth c Q nL b x cA dD n0 sl0 o pc lv st S D := by
  unfold zv_i2 at h; split at h
  · exact zq_br (fun H locs cells slots ls w1 w2 => lv_icmp_le hC.1 hC.2.1 hd ht w1 w2) (hk _ _ _ _ _) (hk _ _ _ _ _) h
  · cases h
theorem zq_goto (hC : zv_C p R s m args meth c cc nL on ini b x cA dD xs d n0 sl0 o) {off : Int} {tgt : Nat} (ht : (pc : Int) + off = (tgt : Int)) (hd : decode cc pc = .ok (.goto off, 3)) {k : zv_K} (hk : ∀ pc lv st S D, k pc lv st S D = some o → zv_G p l e R s m args below meth c Q nL b x cA dD n0 sl0 o pc lv st S D) (h : k tgt lv st S D = some o) : zv_G p l e R s m args below meth c Q nL b x cA dD n0 sl0 o pc lv st S D := by
  exact zq_step (fun H locs cells slots ls _ w => lv_goto hC.1 hC.2.1 hd ht w) (hk _ _ _ _ _ h)
end ZQ
