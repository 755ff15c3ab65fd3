/-! ===== what the machine's memory is in the heap ===== -/
theorem zn_cls {ci : Nat} (h : ci < 10) : vwCl[ci]? = some (zn_own ci, zn_T ci, zn_nf ci) := by
  match ci, h with
  | 0, _ => rfl
  | 1, _ => rfl
  | 2, _ => rfl
  | 3, _ => rfl
  | 4, _ => rfl
  | 5, _ => rfl
  | 6, _ => rfl
  | 7, _ => rfl
  | 8, _ => rfl
  | 9, _ => rfl
  | k + 10, h => exact absurd h (by omega)
theorem zn_words {ci : Nat} (h : ci < 10) : ∀ w ∈ u_ws (zn_own ci) (zn_T ci) (zn_nf ci), w ∈ zgw := by
  match ci, h with
  | 0, _ => exact zw_c0
  | 1, _ => exact zw_c1
  | 2, _ => exact zw_c2
  | 3, _ => exact zw_c3
  | 4, _ => exact zw_c4
  | 5, _ => exact zw_c5
  | 6, _ => exact zw_c6
  | 7, _ => exact zw_c7
  | 8, _ => exact zw_c8
  | 9, _ => exact zw_c9
  | k + 10, h => exact absurd h (by omega)
theorem zn_parse {ci : Nat} (h : ci < 10) : ∀ k, k < zn_nf ci → parseFieldDescriptor (zn_T ci k).2.2.1 = some (zn_ty ci k) := by
  match ci, h with
  | 0, _ => exact tyX0_ok
  | 1, _ => exact tyX1_ok
  | 2, _ => exact tyX2_ok
  | 3, _ => exact tyX3_ok
  | 4, _ => exact tyX4_ok
  | 5, _ => exact tyX5_ok
  | 6, _ => exact tyX6_ok
  | 7, _ => exact tyX7_ok
  | 8, _ => exact tyX8_ok
  | 9, _ => exact tyX9_ok
  | k + 10, h => exact absurd h (by omega)
theorem zn_diff {ci : Nat} (h : ci < 10) : ∀ a, a < zn_nf ci → ∀ b, b < zn_nf ci → a ≠ b → (zn_T ci a).2.1 ≠ (zn_T ci b).2.1 := by
  match ci, h with
  | 0, _ => exact nmX0
  | 1, _ => exact nmX1
  | 2, _ => exact nmX2
  | 3, _ => exact nmX3
  | 4, _ => exact nmX4
  | 5, _ => exact nmX5
  | 6, _ => exact nmX6
  | 7, _ => exact nmX7
  | 8, _ => exact nmX8
  | 9, _ => exact nmX9
  | k + 10, h => exact absurd h (by omega)
def zn_tyc : FieldType → Nat
  | .int => 0
  | .long => 1
  | .object _ => 2
  | .array _ => 2
  | _ => 9
theorem zn_tys : ∀ ci, ci < 10 → ∀ k, k < zn_nf ci → zn_tyc (zn_ty ci k) = zn_ft ci k := by decide +kernel
theorem zn_decl : ∀ ci, ci < 10 → ∀ k, k < zn_nf ci → (zn_T ci k).1 = zn_own ci := by decide +kernel
/-- addresses: cells from b on; what the script and two static rows are, by x -/
def zv_ad (b : Nat) (x : Nat → Nat) (q : Nat) : Nat := if q < 1000000 then b + q else x q
def zv_vl (b : Nat) (x : Nat → Nat) : Value → Value
  | .ref q => .ref (zv_ad b x q)
  | v => v
def zv_fv (b : Nat) (x : Nat → Nat) (S : zv_S) (D : zv_D) (q k t : Nat) : Value := bif Nat.beq t 0 then .int (D.1 q k) else bif Nat.beq t 1 then .long (D.2 q k) else va_rf ((S.2.2.2 q k).map (zv_ad b x))
def zv_fs (b : Nat) (x : Nat → Nat) (S : zv_S) (D : zv_D) (q ci : Nat) : List Value := (List.range (zn_nf ci)).map fun k => zv_fv b x S D q k (zn_ft ci k)
def zv_ce (b : Nat) (x : Nat → Nat) (cA : Nat → ClassId) (S : zv_S) (D : zv_D) (q : Nat) : va_E :=
  bif Nat.blt (S.2.2.1 q).1 10 then .inr ((S.2.2.1 q).1, zv_fs b x S D q (S.2.2.1 q).1)
  else bif Nat.beq (S.2.2.1 q).1 13 then .inl (cA 13, (S.2.2.1 q).2, .inr (.inr (.inr (.inr fun i => (S.2.2.2 q i).map (zv_ad b x)))))
  else .inl (cA (S.2.2.1 q).1, (S.2.2.1 q).2, .inl (D.1 q))
def zv_ws (b : Nat) (x : Nat → Nat) (cA : Nat → ClassId) (S : zv_S) (D : zv_D) : va_W := (List.range S.1).map fun q => (b + q, zv_ce b x cA S D q)
def zv_wf (S : zv_S) : Prop := S.1 ≤ 1000000 ∧ (∀ q, (S.2.2.1 q).1 < 14 → q < S.1) ∧ (∀ q, (S.2.2.1 q).1 = 21 → q = 1000000) ∧ (∀ q, (S.2.2.1 q).1 = 22 → q = 1000002) ∧ ∀ q, (S.2.2.1 q).1 = 24 → q = 1000001
theorem zv_ws_at (b : Nat) (x : Nat → Nat) (cA : Nat → ClassId) (S : zv_S) (D : zv_D) {q : Nat} (h : q < S.1) : (zv_ws b x cA S D)[q]? = some (b + q, zv_ce b x cA S D q) := by
  unfold zv_ws
  rw [List.getElem?_map, List.getElem?_range h]
  rfl
theorem zv_ws_len (b : Nat) (x : Nat → Nat) (cA : Nat → ClassId) (S : zv_S) (D : zv_D) : (zv_ws b x cA S D).length = S.1 := by
  simp [zv_ws]
theorem zv_ws_D (b : Nat) (x : Nat → Nat) (cA : Nat → ClassId) (S : zv_S) (D : zv_D) : va_D (fun q => b ≤ q) (zv_ws b x cA S D) := by
  have key : ∀ (i : Nat) (p : Nat × va_E), (zv_ws b x cA S D)[i]? = some p → p.1 = b + i := by
    intro i p h
    have hi : i < S.1 := by
      have := (List.getElem?_eq_some_iff.mp h).1
      rwa [zv_ws_len] at this
    rw [zv_ws_at b x cA S D hi] at h
    rw [← Option.some.inj h]
  refine ⟨fun i j p q hi hj e => ?_, fun k q h => ?_⟩
  · have h1 := key i p hi
    have h2 := key j q hj
    omega
  · have h1 := key k q h
    show b ≤ q.1
    omega
/-- one cell is written -/
theorem zv_ws_set (b : Nat) (x : Nat → Nat) (cA : Nat → ClassId) (S S' : zv_S) (D D' : zv_D) {q : Nat} {e : va_E} (hn : S'.1 = S.1) (hq : q < S.1) (he : zv_ce b x cA S' D' q = e) (ho : ∀ j, j ≠ q → zv_ce b x cA S' D' j = zv_ce b x cA S D j) : (zv_ws b x cA S D).set q (b + q, e) = zv_ws b x cA S' D' := by
  apply List.ext_getElem?
  intro j
  by_cases hj : j < S.1
  · by_cases hjq : j = q
    · subst hjq
      rw [List.getElem?_set_self (by rw [zv_ws_len]; exact hj), zv_ws_at b x cA S' D' (by rw [hn]; exact hj), he]
    · rw [List.getElem?_set_ne (fun h => hjq h.symm), zv_ws_at b x cA S D hj, zv_ws_at b x cA S' D' (by rw [hn]; exact hj), ho j hjq]
  · rw [List.getElem?_eq_none (by rw [List.length_set, zv_ws_len]; omega), List.getElem?_eq_none (by rw [zv_ws_len, hn]; omega)]
theorem zv_fs_at (b : Nat) (x : Nat → Nat) (S : zv_S) (D : zv_D) (q ci : Nat) {k : Nat} (h : k < zn_nf ci) : (zv_fs b x S D q ci)[k]? = some (zv_fv b x S D q k (zn_ft ci k)) := by
  unfold zv_fs
  rw [List.getElem?_map, List.getElem?_range h]
  rfl
theorem zv_fs_len (b : Nat) (x : Nat → Nat) (S : zv_S) (D : zv_D) (q ci : Nat) : (zv_fs b x S D q ci).length = zn_nf ci := by
  simp [zv_fs]
theorem zv_fs_set (b : Nat) (x : Nat → Nat) (S S' : zv_S) (D D' : zv_D) (q ci : Nat) {k : Nat} {v : Value} (hk : k < zn_nf ci) (hv : zv_fv b x S' D' q k (zn_ft ci k) = v) (ho : ∀ j, j ≠ k → zv_fv b x S' D' q j (zn_ft ci j) = zv_fv b x S D q j (zn_ft ci j)) : (zv_fs b x S D q ci).set k v = zv_fs b x S' D' q ci := by
  apply List.ext_getElem?
  intro j
  by_cases hj : j < zn_nf ci
  · by_cases hjk : j = k
    · subst hjk
      rw [List.getElem?_set_self (by rw [zv_fs_len]; exact hj), zv_fs_at b x S' D' q ci hj, hv]
    · rw [List.getElem?_set_ne (fun h => hjk h.symm), zv_fs_at b x S D q ci hj, zv_fs_at b x S' D' q ci hj, ho j hjk]
  · rw [List.getElem?_eq_none (by rw [List.length_set, zv_fs_len]; omega), List.getElem?_eq_none (by rw [zv_fs_len]; omega)]
theorem zv_ce_o (b : Nat) (x : Nat → Nat) (cA : Nat → ClassId) (S : zv_S) (D : zv_D) {q ci : Nat} (h : (S.2.2.1 q).1 = ci) (hc : ci < 10) : zv_ce b x cA S D q = .inr (ci, zv_fs b x S D q ci) := by
  unfold zv_ce
  rw [h, show Nat.blt ci 10 = true from by simp [hc]]
  rfl
theorem zv_ce_a (b : Nat) (x : Nat → Nat) (cA : Nat → ClassId) (S : zv_S) (D : zv_D) {q t : Nat} (h : (S.2.2.1 q).1 = t) (h1 : Nat.blt t 10 = false) (h2 : Nat.beq t 13 = false) : zv_ce b x cA S D q = .inl (cA t, (S.2.2.1 q).2, .inl (D.1 q)) := by
  unfold zv_ce
  rw [h, h1, h2]
  rfl
theorem zv_ce_q (b : Nat) (x : Nat → Nat) (cA : Nat → ClassId) (S : zv_S) (D : zv_D) {q : Nat} (h : (S.2.2.1 q).1 = 13) : zv_ce b x cA S D q = .inl (cA 13, (S.2.2.1 q).2, .inr (.inr (.inr (.inr fun i => (S.2.2.2 q i).map (zv_ad b x))))) := by
  unfold zv_ce
  rw [h]
  rfl
/-- a cell is as it was where its ints, longs, references and shape are -/
theorem zv_ce_congr (b : Nat) (x : Nat → Nat) (cA : Nat → ClassId) {S S' : zv_S} {D D' : zv_D} {q : Nat} (h1 : S'.2.2.1 q = S.2.2.1 q) (h2 : S'.2.2.2 q = S.2.2.2 q) (h3 : D'.1 q = D.1 q) (h4 : D'.2 q = D.2 q) : zv_ce b x cA S' D' q = zv_ce b x cA S D q := by
  unfold zv_ce zv_fs zv_fv
  rw [h1, h2, h3, h4]
def zv_ty (cA : Nat → ClassId) : List (ClassId × FieldType) := [(cA 10, .char), (cA 11, .int), (cA 12, .boolean), (cA 13, .object "HiddenExits$State")]
