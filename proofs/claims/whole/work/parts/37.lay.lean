/-! ===== distances: the other side ===== -/
def zL_x (g : Nat → Nat → Int32) (X : zX) (i j : Nat) : Prop := g 128 (5 * i + j) = nI (za_di (zX_co X) i j)
def zL_s (g : Nat → Nat → Int32) (T : zT) (X : zX) (b : Nat) : Prop := ∀ i j, i < zT_n T → j < zT_n T → g 128 (5 * i + j) = -9 ∨ ∃ v, g 128 (5 * i + j) = nI v ∧ v ≤ 9 * b ∧ za_di (zX_co X) i j ≤ v ∧ za_di (zX_co X) i j < 1000
theorem zL_s_mono {g : Nat → Nat → Int32} {T : zT} {X : zX} {b b' : Nat} (h : zL_s g T X b) (hb : b ≤ b') : zL_s g T X b' := by
  intro i j hi hj
  rcases h i j hi hj with q | ⟨v, q1, q2, q3, q4⟩
  · exact Or.inl q
  · exact Or.inr ⟨v, q1, by omega, q3, q4⟩
theorem za_lv_self (co : Nat → Nat) (j t : Nat) : za_lv co j t j := by
  cases t with
  | zero => rfl
  | succ t => exact Or.inl rfl
/-- what one look does -/
def zL_1 (g g' : Nat → Nat → Int32) (T : zT) (X : zX) (i w j b : Nat) : Prop := (∀ x, x ≠ 128 → g' x = g x) ∧ zL_s g' T X (b + 1) ∧ (∀ a c, a < 5 → c < 5 → a < zT_n T → c < zT_n T → zL_x g X a c → zL_x g' X a c) ∧ (0 < zX_co X (5 * i + w) → za_di (zX_co X) i j = zX_co X (5 * i + w) + za_di (zX_co X) w j → zL_x g X w j → zL_x g' X i j)
theorem zL_put {g : Nat → Nat → Int32} {T : zT} {X : zX} {i w j b v : Nat} (hT : zT_ok T) (hX : zX_ok T X) (hi : i < zT_n T) (hw : w < zT_n T) (hj : j < zT_n T) (hs : zL_s g T X b) (hl : 0 < zX_co X (5 * i + w)) (hv : g 128 (5 * w + j) = nI v) (hv2 : v ≤ 9 * b) (hv3 : za_di (zX_co X) w j ≤ v) (hv4 : za_di (zX_co X) w j < 1000) (hb : b < 10000) (hlt : g 128 (5 * i + j) = -9 ∨ ∃ u, g 128 (5 * i + j) = nI u ∧ zX_co X (5 * i + w) + v < u ∧ u ≤ 9 * b) : zL_1 g (zv_w g 128 (5 * i + j) (nI (zX_co X (5 * i + w) + v))) T X i w j b := by
  have h5 := hT.2.1
  have hc := hX.1 (5 * i + w)
  have hst := za_di_step (co := zX_co X) (i := i) (k := w) (by omega) hl j
  have hfw := za_di_fin hX.1 w j
  have hfi := za_di_fin hX.1 i j
  refine ⟨fun x hx => zw_cell _ _ _ hx, fun a c ha hc' => ?_, fun a c ha5 hc5 ha hc' hx => ?_, fun _ he hx => ?_⟩
  · by_cases h : 5 * a + c = 5 * i + j
    · have ea : a = i := by omega
      have ec : c = j := by omega
      subst ea; subst ec
      rw [zw_same]
      exact Or.inr ⟨_, rfl, by omega, by omega, by omega⟩
    · rw [zw_other _ _ _ h]
      rcases hs a c ha hc' with q | ⟨u, q1, q2, q3, q4⟩
      · exact Or.inl q
      · exact Or.inr ⟨u, q1, by omega, q3, q4⟩
  · unfold zL_x at hx ⊢
    by_cases h : 5 * a + c = 5 * i + j
    · have ea : a = i := by omega
      have ec : c = j := by omega
      subst ea; subst ec
      rw [hx] at hlt
      have hf := za_di_fin hX.1 a c
      rcases hlt with q | ⟨u, q1, q2, q3⟩
      · exact absurd q (zi_ne9 (by omega))
      · have := (nI_eq (by omega) (by omega)).mp q1
        omega
    · rw [zw_other _ _ _ h]; exact hx
  · unfold zL_x at hx ⊢
    rw [zw_same, he]
    rw [hv] at hx
    rw [(nI_eq (by omega) (by omega)).mp hx]
theorem zL_no {g : Nat → Nat → Int32} {T : zT} {X : zX} {i w j b : Nat} (hs : zL_s g T X b) (h : 0 < zX_co X (5 * i + w) → za_di (zX_co X) i j = zX_co X (5 * i + w) + za_di (zX_co X) w j → zL_x g X w j → zL_x g X i j) : zL_1 g g T X i w j b :=
  ⟨fun _ _ => rfl, zL_s_mono hs (by omega), fun _ _ _ _ _ _ q => q, h⟩
theorem zx_lay_119 {dp : Nat} {g : Nat → Nat → Int32} {h : Nat → Nat → Int64} {T : zT} {X : zX} {i w j b t : Nat} (hT : zT_ok T) (hX : zX_ok T X) (hco : ∀ k, k < 25 → g 119 (5 + k) = nI (zX_co X k)) (hi : i < zT_n T) (hw : w < zT_n T) (hj : j < zT_n T) (hs : zL_s g T X b) (hb : b < 10000) (u5 u6 u7 u8 u9 u10 : Option Value) :
    ∃ g' v5 v6 v7 v8 v9 v10, zL_1 g g' T X i w j b ∧ zv_m zt_X9_layCosts (zv_ev (dp + 1)) false 49 [some (.ref 116), some (.ref 119), some (.int (nI (zT_n T))), some (.int (nI t)), some (.int (nI ((i * zT_n T + w) * zT_n T + j))), u5, u6, u7, u8, u9, u10] [] zS0 (g, h) = zv_m zt_X9_layCosts (zv_ev (dp + 1)) false 49 [some (.ref 116), some (.ref 119), some (.int (nI (zT_n T))), some (.int (nI t)), some (.int (nI ((i * zT_n T + w) * zT_n T + j + 1))), v5, v6, v7, v8, v9, v10] [] zS0 (g', h) := by
  have h5 := hT.2.1
  have n1 := hT.1
  have hst := zd_X9_layCosts_p119_49 (zv_ev (dp + 1)) g h (nI (zT_n T)) (nI t) (nI ((i * zT_n T + w) * zT_n T + j)) u5 u6 u7 u8 u9 u10
  generalize hn : zT_n T = n at *
  have b1 : i * n + w < n * n := by
    have : i * n + n ≤ n * n := by
      have := Nat.mul_le_mul_right n (show i + 1 ≤ n by omega)
      rw [Nat.add_mul, Nat.one_mul] at this
      exact this
    omega
  have b2 : (i * n + w) * n + j < n * n * n := by
    have : (i * n + w) * n + n ≤ n * n * n := by
      have := Nat.mul_le_mul_right n (show i * n + w + 1 ≤ n * n by omega)
      rw [Nat.add_mul (i * n + w), Nat.one_mul] at this
      exact this
    omega
  have nn : n * n ≤ 25 := Nat.mul_le_mul h5 h5
  have nnn : n * n * n ≤ 125 := Nat.mul_le_mul nn h5
  have npos : 0 < n * n := Nat.mul_pos (by omega) (by omega)
  have q1 : ((i * n + w) * n + j) / n = i * n + w := by
    rw [Nat.add_comm, Nat.mul_comm, Nat.add_mul_div_left _ _ (by omega), Nat.div_eq_of_lt hj, Nat.zero_add]
  have q2 : ((i * n + w) * n + j) % n = j := by
    rw [Nat.add_comm, Nat.mul_comm, Nat.add_mul_mod_self_left, Nat.mod_eq_of_lt hj]
  have q3 : (i * n + w) / n = i := by
    rw [Nat.add_comm, Nat.mul_comm, Nat.add_mul_div_left _ _ (by omega), Nat.div_eq_of_lt hw, Nat.zero_add]
  have q4 : (i * n + w) % n = w := by
    rw [Nat.add_comm, Nat.mul_comm, Nat.add_mul_mod_self_left, Nat.mod_eq_of_lt hw]
  have q5 : ((i * n + w) * n + j) / (n * n) = i := by
    rw [← Nat.div_div_eq_div_mul, q1, q3]
  have e1 : nI ((i * n + w) * n + j) / nI n = nI (i * n + w) := by rw [pk_div (by omega) (by omega) (by omega), q1]
  have e2 : nI ((i * n + w) * n + j) - nI (i * n + w) * nI n = nI j := by
    have := pk_rem (a := (i * n + w) * n + j) (d := n) (by omega) (by omega) (by omega)
    rw [e1, q2] at this
    exact this
  have e3 : nI (i * n + w) / nI n = nI i := by rw [pk_div (by omega) (by omega) (by omega), q3]
  have e4 : nI (i * n + w) - nI i * nI n = nI w := by
    have := pk_rem (a := i * n + w) (d := n) (by omega) (by omega) (by omega)
    rw [e3, q4] at this
    exact this
  have e5 : nI ((i * n + w) * n + j) / nI (n * n) = nI i := by rw [pk_div (by omega) npos (by omega), q5]
  have z1 : ¬ nI n = 0 := fun z => by have := (zi_0 (by omega)).mp z; omega
  have z2 : ¬ nI (n * n) = 0 := fun z => by have := (zi_0 (by omega)).mp z; omega
  rw [pk_mul, pk_mul, if_neg (nI_ge b2 (by omega)), if_neg z2, if_neg z1, if_neg z1, if_neg z1, e1, e2, e3, e4, e5, nI_1, ev_pair (dp := dp) (g, h), zx_05] at hst
  simp only [Option.bind_some] at hst
  rw [zx_5, zx_5, zi_in (n := 101) (by omega) (by decide), zi_in (n := 25) (by omega) (by decide), zi_in (n := 25) (by omega) (by decide), nI_clamp (by omega), nI_clamp (by omega), nI_clamp (by omega), hco _ (by omega)] at hst
  simp only [cond_true] at hst
  have hc := hX.1 (5 * i + w)
  by_cases c1 : zX_co X (5 * i + w) = 0
  · rw [if_pos ((zi_le0 (by omega)).mpr c1)] at hst
    exact ⟨g, _, _, _, _, _, _, zL_no hs (fun z => absurd z (by omega)), hst⟩
  rw [if_neg (fun z => c1 ((zi_le0 (by omega)).mp z))] at hst
  have hw' : w < zT_n T := by rw [hn]; exact hw
  have hj' : j < zT_n T := by rw [hn]; exact hj
  have hi' : i < zT_n T := by rw [hn]; exact hi
  have fwj := za_di_fin hX.1 w j
  rcases hs w j hw' hj' with c2 | ⟨v, v1, v2, v3, v4⟩
  · rw [if_pos c2] at hst
    refine ⟨g, _, _, _, _, _, _, zL_no hs (fun _ _ z => ?_), hst⟩
    unfold zL_x at z
    rw [c2] at z
    exact absurd z.symm (zi_ne9 (by omega))
  rw [if_neg (by rw [v1]; exact zi_ne9 (by omega))] at hst
  rcases hs i j hi' hj' with c3 | ⟨u, u1, u2, u3, u4⟩
  · rw [if_pos c3, v1, nI_add] at hst
    exact ⟨_, _, _, _, _, _, _, zL_put hT hX hi' hw' hj' hs (by omega) v1 v2 v3 v4 hb (Or.inl c3), hst⟩
  rw [if_neg (by rw [u1]; exact zi_ne9 (by omega)), u1, v1, nI_add] at hst
  by_cases c4 : u ≤ zX_co X (5 * i + w) + v
  · rw [if_pos (nI_le c4 (by omega))] at hst
    refine ⟨g, _, _, _, _, _, _, zL_no hs (fun _ he z => ?_), hst⟩
    unfold zL_x at z ⊢
    rw [v1] at z
    have := (nI_eq (by omega) (by omega)).mp z
    rw [u1]
    congr 1
    omega
  · rw [if_neg (nI_ge (by omega) (by omega))] at hst
    exact ⟨_, _, _, _, _, _, _, zL_put hT hX hi' hw' hj' hs (by omega) v1 v2 v3 v4 hb (Or.inr ⟨u, u1, by omega, u2⟩), hst⟩
theorem zx_lay_120 {dp : Nat} {g : Nat → Nat → Int32} {h : Nat → Nat → Int64} {T : zT} {X : zX} {i w j b t : Nat} (hT : zT_ok T) (hX : zX_ok T X) (hco : ∀ k, k < 25 → g 120 (5 + k) = nI (zX_co X k)) (hi : i < zT_n T) (hw : w < zT_n T) (hj : j < zT_n T) (hs : zL_s g T X b) (hb : b < 10000) (u5 u6 u7 u8 u9 u10 : Option Value) :
    ∃ g' v5 v6 v7 v8 v9 v10, zL_1 g g' T X i w j b ∧ zv_m zt_X9_layCosts (zv_ev (dp + 1)) false 49 [some (.ref 116), some (.ref 120), some (.int (nI (zT_n T))), some (.int (nI t)), some (.int (nI ((i * zT_n T + w) * zT_n T + j))), u5, u6, u7, u8, u9, u10] [] zS0 (g, h) = zv_m zt_X9_layCosts (zv_ev (dp + 1)) false 49 [some (.ref 116), some (.ref 120), some (.int (nI (zT_n T))), some (.int (nI t)), some (.int (nI ((i * zT_n T + w) * zT_n T + j + 1))), v5, v6, v7, v8, v9, v10] [] zS0 (g', h) := by
  have h5 := hT.2.1
  have n1 := hT.1
  have hst := zd_X9_layCosts_p120_49 (zv_ev (dp + 1)) g h (nI (zT_n T)) (nI t) (nI ((i * zT_n T + w) * zT_n T + j)) u5 u6 u7 u8 u9 u10
  generalize hn : zT_n T = n at *
  have b1 : i * n + w < n * n := by
    have : i * n + n ≤ n * n := by
      have := Nat.mul_le_mul_right n (show i + 1 ≤ n by omega)
      rw [Nat.add_mul, Nat.one_mul] at this
      exact this
    omega
  have b2 : (i * n + w) * n + j < n * n * n := by
    have : (i * n + w) * n + n ≤ n * n * n := by
      have := Nat.mul_le_mul_right n (show i * n + w + 1 ≤ n * n by omega)
      rw [Nat.add_mul (i * n + w), Nat.one_mul] at this
      exact this
    omega
  have nn : n * n ≤ 25 := Nat.mul_le_mul h5 h5
  have nnn : n * n * n ≤ 125 := Nat.mul_le_mul nn h5
  have npos : 0 < n * n := Nat.mul_pos (by omega) (by omega)
  have q1 : ((i * n + w) * n + j) / n = i * n + w := by
    rw [Nat.add_comm, Nat.mul_comm, Nat.add_mul_div_left _ _ (by omega), Nat.div_eq_of_lt hj, Nat.zero_add]
  have q2 : ((i * n + w) * n + j) % n = j := by
    rw [Nat.add_comm, Nat.mul_comm, Nat.add_mul_mod_self_left, Nat.mod_eq_of_lt hj]
  have q3 : (i * n + w) / n = i := by
    rw [Nat.add_comm, Nat.mul_comm, Nat.add_mul_div_left _ _ (by omega), Nat.div_eq_of_lt hw, Nat.zero_add]
  have q4 : (i * n + w) % n = w := by
    rw [Nat.add_comm, Nat.mul_comm, Nat.add_mul_mod_self_left, Nat.mod_eq_of_lt hw]
  have q5 : ((i * n + w) * n + j) / (n * n) = i := by
    rw [← Nat.div_div_eq_div_mul, q1, q3]
  have e1 : nI ((i * n + w) * n + j) / nI n = nI (i * n + w) := by rw [pk_div (by omega) (by omega) (by omega), q1]
  have e2 : nI ((i * n + w) * n + j) - nI (i * n + w) * nI n = nI j := by
    have := pk_rem (a := (i * n + w) * n + j) (d := n) (by omega) (by omega) (by omega)
    rw [e1, q2] at this
    exact this
  have e3 : nI (i * n + w) / nI n = nI i := by rw [pk_div (by omega) (by omega) (by omega), q3]
  have e4 : nI (i * n + w) - nI i * nI n = nI w := by
    have := pk_rem (a := i * n + w) (d := n) (by omega) (by omega) (by omega)
    rw [e3, q4] at this
    exact this
  have e5 : nI ((i * n + w) * n + j) / nI (n * n) = nI i := by rw [pk_div (by omega) npos (by omega), q5]
  have z1 : ¬ nI n = 0 := fun z => by have := (zi_0 (by omega)).mp z; omega
  have z2 : ¬ nI (n * n) = 0 := fun z => by have := (zi_0 (by omega)).mp z; omega
  rw [pk_mul, pk_mul, if_neg (nI_ge b2 (by omega)), if_neg z2, if_neg z1, if_neg z1, if_neg z1, e1, e2, e3, e4, e5, nI_1, ev_pair (dp := dp) (g, h), zx_05] at hst
  simp only [Option.bind_some] at hst
  rw [zx_5, zx_5, zi_in (n := 101) (by omega) (by decide), zi_in (n := 25) (by omega) (by decide), zi_in (n := 25) (by omega) (by decide), nI_clamp (by omega), nI_clamp (by omega), nI_clamp (by omega), hco _ (by omega)] at hst
  simp only [cond_true] at hst
  have hc := hX.1 (5 * i + w)
  by_cases c1 : zX_co X (5 * i + w) = 0
  · rw [if_pos ((zi_le0 (by omega)).mpr c1)] at hst
    exact ⟨g, _, _, _, _, _, _, zL_no hs (fun z => absurd z (by omega)), hst⟩
  rw [if_neg (fun z => c1 ((zi_le0 (by omega)).mp z))] at hst
  have hw' : w < zT_n T := by rw [hn]; exact hw
  have hj' : j < zT_n T := by rw [hn]; exact hj
  have hi' : i < zT_n T := by rw [hn]; exact hi
  have fwj := za_di_fin hX.1 w j
  rcases hs w j hw' hj' with c2 | ⟨v, v1, v2, v3, v4⟩
  · rw [if_pos c2] at hst
    refine ⟨g, _, _, _, _, _, _, zL_no hs (fun _ _ z => ?_), hst⟩
    unfold zL_x at z
    rw [c2] at z
    exact absurd z.symm (zi_ne9 (by omega))
  rw [if_neg (by rw [v1]; exact zi_ne9 (by omega))] at hst
  rcases hs i j hi' hj' with c3 | ⟨u, u1, u2, u3, u4⟩
  · rw [if_pos c3, v1, nI_add] at hst
    exact ⟨_, _, _, _, _, _, _, zL_put hT hX hi' hw' hj' hs (by omega) v1 v2 v3 v4 hb (Or.inl c3), hst⟩
  rw [if_neg (by rw [u1]; exact zi_ne9 (by omega)), u1, v1, nI_add] at hst
  by_cases c4 : u ≤ zX_co X (5 * i + w) + v
  · rw [if_pos (nI_le c4 (by omega))] at hst
    refine ⟨g, _, _, _, _, _, _, zL_no hs (fun _ he z => ?_), hst⟩
    unfold zL_x at z ⊢
    rw [v1] at z
    have := (nI_eq (by omega) (by omega)).mp z
    rw [u1]
    congr 1
    omega
  · rw [if_neg (nI_ge (by omega) (by omega))] at hst
    exact ⟨_, _, _, _, _, _, _, zL_put hT hX hi' hw' hj' hs (by omega) v1 v2 v3 v4 hb (Or.inr ⟨u, u1, by omega, u2⟩), hst⟩
theorem zx_lay_121 {dp : Nat} {g : Nat → Nat → Int32} {h : Nat → Nat → Int64} {T : zT} {X : zX} {i w j b t : Nat} (hT : zT_ok T) (hX : zX_ok T X) (hco : ∀ k, k < 25 → g 121 (5 + k) = nI (zX_co X k)) (hi : i < zT_n T) (hw : w < zT_n T) (hj : j < zT_n T) (hs : zL_s g T X b) (hb : b < 10000) (u5 u6 u7 u8 u9 u10 : Option Value) :
    ∃ g' v5 v6 v7 v8 v9 v10, zL_1 g g' T X i w j b ∧ zv_m zt_X9_layCosts (zv_ev (dp + 1)) false 49 [some (.ref 116), some (.ref 121), some (.int (nI (zT_n T))), some (.int (nI t)), some (.int (nI ((i * zT_n T + w) * zT_n T + j))), u5, u6, u7, u8, u9, u10] [] zS0 (g, h) = zv_m zt_X9_layCosts (zv_ev (dp + 1)) false 49 [some (.ref 116), some (.ref 121), some (.int (nI (zT_n T))), some (.int (nI t)), some (.int (nI ((i * zT_n T + w) * zT_n T + j + 1))), v5, v6, v7, v8, v9, v10] [] zS0 (g', h) := by
  have h5 := hT.2.1
  have n1 := hT.1
  have hst := zd_X9_layCosts_p121_49 (zv_ev (dp + 1)) g h (nI (zT_n T)) (nI t) (nI ((i * zT_n T + w) * zT_n T + j)) u5 u6 u7 u8 u9 u10
  generalize hn : zT_n T = n at *
  have b1 : i * n + w < n * n := by
    have : i * n + n ≤ n * n := by
      have := Nat.mul_le_mul_right n (show i + 1 ≤ n by omega)
      rw [Nat.add_mul, Nat.one_mul] at this
      exact this
    omega
  have b2 : (i * n + w) * n + j < n * n * n := by
    have : (i * n + w) * n + n ≤ n * n * n := by
      have := Nat.mul_le_mul_right n (show i * n + w + 1 ≤ n * n by omega)
      rw [Nat.add_mul (i * n + w), Nat.one_mul] at this
      exact this
    omega
  have nn : n * n ≤ 25 := Nat.mul_le_mul h5 h5
  have nnn : n * n * n ≤ 125 := Nat.mul_le_mul nn h5
  have npos : 0 < n * n := Nat.mul_pos (by omega) (by omega)
  have q1 : ((i * n + w) * n + j) / n = i * n + w := by
    rw [Nat.add_comm, Nat.mul_comm, Nat.add_mul_div_left _ _ (by omega), Nat.div_eq_of_lt hj, Nat.zero_add]
  have q2 : ((i * n + w) * n + j) % n = j := by
    rw [Nat.add_comm, Nat.mul_comm, Nat.add_mul_mod_self_left, Nat.mod_eq_of_lt hj]
  have q3 : (i * n + w) / n = i := by
    rw [Nat.add_comm, Nat.mul_comm, Nat.add_mul_div_left _ _ (by omega), Nat.div_eq_of_lt hw, Nat.zero_add]
  have q4 : (i * n + w) % n = w := by
    rw [Nat.add_comm, Nat.mul_comm, Nat.add_mul_mod_self_left, Nat.mod_eq_of_lt hw]
  have q5 : ((i * n + w) * n + j) / (n * n) = i := by
    rw [← Nat.div_div_eq_div_mul, q1, q3]
  have e1 : nI ((i * n + w) * n + j) / nI n = nI (i * n + w) := by rw [pk_div (by omega) (by omega) (by omega), q1]
  have e2 : nI ((i * n + w) * n + j) - nI (i * n + w) * nI n = nI j := by
    have := pk_rem (a := (i * n + w) * n + j) (d := n) (by omega) (by omega) (by omega)
    rw [e1, q2] at this
    exact this
  have e3 : nI (i * n + w) / nI n = nI i := by rw [pk_div (by omega) (by omega) (by omega), q3]
  have e4 : nI (i * n + w) - nI i * nI n = nI w := by
    have := pk_rem (a := i * n + w) (d := n) (by omega) (by omega) (by omega)
    rw [e3, q4] at this
    exact this
  have e5 : nI ((i * n + w) * n + j) / nI (n * n) = nI i := by rw [pk_div (by omega) npos (by omega), q5]
  have z1 : ¬ nI n = 0 := fun z => by have := (zi_0 (by omega)).mp z; omega
  have z2 : ¬ nI (n * n) = 0 := fun z => by have := (zi_0 (by omega)).mp z; omega
  rw [pk_mul, pk_mul, if_neg (nI_ge b2 (by omega)), if_neg z2, if_neg z1, if_neg z1, if_neg z1, e1, e2, e3, e4, e5, nI_1, ev_pair (dp := dp) (g, h), zx_05] at hst
  simp only [Option.bind_some] at hst
  rw [zx_5, zx_5, zi_in (n := 101) (by omega) (by decide), zi_in (n := 25) (by omega) (by decide), zi_in (n := 25) (by omega) (by decide), nI_clamp (by omega), nI_clamp (by omega), nI_clamp (by omega), hco _ (by omega)] at hst
  simp only [cond_true] at hst
  have hc := hX.1 (5 * i + w)
  by_cases c1 : zX_co X (5 * i + w) = 0
  · rw [if_pos ((zi_le0 (by omega)).mpr c1)] at hst
    exact ⟨g, _, _, _, _, _, _, zL_no hs (fun z => absurd z (by omega)), hst⟩
  rw [if_neg (fun z => c1 ((zi_le0 (by omega)).mp z))] at hst
  have hw' : w < zT_n T := by rw [hn]; exact hw
  have hj' : j < zT_n T := by rw [hn]; exact hj
  have hi' : i < zT_n T := by rw [hn]; exact hi
  have fwj := za_di_fin hX.1 w j
  rcases hs w j hw' hj' with c2 | ⟨v, v1, v2, v3, v4⟩
  · rw [if_pos c2] at hst
    refine ⟨g, _, _, _, _, _, _, zL_no hs (fun _ _ z => ?_), hst⟩
    unfold zL_x at z
    rw [c2] at z
    exact absurd z.symm (zi_ne9 (by omega))
  rw [if_neg (by rw [v1]; exact zi_ne9 (by omega))] at hst
  rcases hs i j hi' hj' with c3 | ⟨u, u1, u2, u3, u4⟩
  · rw [if_pos c3, v1, nI_add] at hst
    exact ⟨_, _, _, _, _, _, _, zL_put hT hX hi' hw' hj' hs (by omega) v1 v2 v3 v4 hb (Or.inl c3), hst⟩
  rw [if_neg (by rw [u1]; exact zi_ne9 (by omega)), u1, v1, nI_add] at hst
  by_cases c4 : u ≤ zX_co X (5 * i + w) + v
  · rw [if_pos (nI_le c4 (by omega))] at hst
    refine ⟨g, _, _, _, _, _, _, zL_no hs (fun _ he z => ?_), hst⟩
    unfold zL_x at z ⊢
    rw [v1] at z
    have := (nI_eq (by omega) (by omega)).mp z
    rw [u1]
    congr 1
    omega
  · rw [if_neg (nI_ge (by omega) (by omega))] at hst
    exact ⟨_, _, _, _, _, _, _, zL_put hT hX hi' hw' hj' hs (by omega) v1 v2 v3 v4 hb (Or.inr ⟨u, u1, by omega, u2⟩), hst⟩
