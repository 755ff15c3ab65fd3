theorem zv_tok_app {on nL rk : Nat} {ini : Bool} {cc : ByteArray} {a b : List (Nat × List zv_E)} (h1 : zv_tok on nL rk ini cc a = true) (h2 : zv_tok on nL rk ini cc b = true) : zv_tok on nL rk ini cc (a ++ b) = true := by
  unfold zv_tok at *
  rw [List.all_append, h1, h2]
  rfl
theorem zto_law : zv_tok 10 4 1 false code zt_L_law = true := (show zt_L_law = zt_L_0 ++ (zt_L_1 ++ (zt_L_2 ++ (zt_L_3 ++ (zt_L_4 ++ (zt_L_5 ++ (zt_L_6 ++ (zt_L_7 ++ (zt_L_8 ++ (zt_L_9))))))))) from rfl) ▸ (zv_tok_app zto_L_0 (zv_tok_app zto_L_1 (zv_tok_app zto_L_2 (zv_tok_app zto_L_3 (zv_tok_app zto_L_4 (zv_tok_app zto_L_5 (zv_tok_app zto_L_6 (zv_tok_app zto_L_7 (zv_tok_app zto_L_8 (zto_L_9))))))))))
