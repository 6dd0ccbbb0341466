theorem iX0_init_X0 : ∀ w ∈ wsX00, w ∈ wsX0_init := by decide +kernel
set_option maxHeartbeats 4000000 in
set_option maxRecDepth 100000 in
theorem c_X0_init (l : Launch) (D : va_G) (h0 sz : Nat) : Met l yX0_init wsX0_init { frames := 1, cells := 2, slots := 18, locals := 16 } (va_Pc [.ref h0] (gq_pre D [] [(h0, .inr (0, [.null, .null, .int 0, .int 0, .int 0]))] sz)) (va_Qv (fun (u : (Nat → Nat) × (Nat → ClassId)) => u.1 1 = h0) (fun u t => gq_at D (va_A [(h0, .inr (0, [.null, .null, .int 0, .int 0, .int 0]))] sz) (fun (u : (Nat → Nat) × (Nat → ClassId)) => wdP u.1 u.2 (fun _ => 0) (fun _ => 0) 0 0 0) u t ∧ va_K D vwCl ((fun (u : (Nat → Nat) × (Nat → ClassId)) => tyP u.2) u) t) (va_A [(h0, .inr (0, [.null, .null, .int 0, .int 0, .int 0]))] sz)) 2 18 (va_A [(h0, .inr (0, [.null, .null, .int 0, .int 0, .int 0]))] sz) := by
  refine gq_metn (cc := cX0_init) (maxL := 1) (lv := [(0, .ref h0)]) (by decide) rfl (Nat.le_of_ble_eq_true rfl) rfl rfl ?_
  intro p e s m below meth c A Q ls H locs hx hb hml hown hts hnw hA hK hP hD hS hl hin hz
  refine lv_aload_n hx hb dX0_init_0 rfl (lv_at hl 0 rfl) ?_
  refine W.objInit hx hb hown (hts (.methodLink RX0 3 objectInit) (by decide +kernel)) (hts (.instanceMethod objectInit) (by decide +kernel)) (hts (.code objectInit ⟨#[0xb1]⟩ 1 none) (List.mem_of_getElem? (i := 3) rfl)) rfl (by rw [hml]; exact hl.1) rfl dX0_init_1 (Nat.le_of_ble_eq_true rfl) (Nat.le_of_ble_eq_true rfl) ?_
  refine W.eq (g2 := F0 m 4 ls []) rfl ?_
  refine lv_aload_n hx hb dX0_init_4 rfl (lv_at hl 0 rfl) ?_
  refine lv_bipush (v := 9) hx hb dX0_init_5 (by decide) ?_
  refine va_newa (atype := .int) (n := 9) (N' := 9) (a0 := (9, .inl (fun _ => 0))) (ty := .int) hx hb (hts (.arrayClass .int) (by decide +kernel)) rfl hK hP hD hS hA (fun _ => rfl) (by decide +kernel) (by decide +kernel) (by decide +kernel) (Nat.le_of_ble_eq_true rfl) (Nat.le_of_ble_eq_true rfl) dX0_init_7 (fun q1 k1 H hK hP hD hS => ?_)
  have hP : va_P D vwCl [(h0, .inr (0, [.null, .null, .int 0, .int 0, .int 0])), (q1, .inl (k1, 9, .inl (fun _ => 0)))] H := hP
  have hD : va_D A [(h0, .inr (0, [.null, .null, .int 0, .int 0, .int 0])), (q1, .inl (k1, 9, .inl (fun _ => 0)))] := hD
  refine va_putF (D := D) (ci := 0) (v := .ref q1) (ty := .array .int) (C := RX0) (T := TX0) (N := 5) hx hb hts iX0_init_X0 tyX0 tyX0_ok nmX0 hown hK hP hD hS 0 rfl rfl 0 (by decide) (hts (.fieldLink RX0 9 "DecoyHouse$Plan" "doorsFrom" "[I") (by decide +kernel)) (fun _ h9 => h9) rfl hin rfl (by decide +kernel) rfl rfl (Nat.le_of_ble_eq_true rfl) dX0_init_9 (fun H locs hP hD hS => ?_)
  have hP : va_P D vwCl [(h0, .inr (0, [.ref q1, .null, .int 0, .int 0, .int 0])), (q1, .inl (k1, 9, .inl (fun _ => 0)))] H := hP
  have hD : va_D A [(h0, .inr (0, [.ref q1, .null, .int 0, .int 0, .int 0])), (q1, .inl (k1, 9, .inl (fun _ => 0)))] := hD
  refine lv_aload_n hx hb dX0_init_12 rfl (lv_at hl 0 rfl) ?_
  refine lv_bipush (v := 9) hx hb dX0_init_13 (by decide) ?_
  refine va_newa (atype := .int) (n := 9) (N' := 9) (a0 := (9, .inl (fun _ => 0))) (ty := .int) hx hb (hts (.arrayClass .int) (by decide +kernel)) rfl hK hP hD hS hA (fun _ => rfl) (by decide +kernel) (by decide +kernel) (by decide +kernel) (Nat.le_of_ble_eq_true rfl) (Nat.le_of_ble_eq_true rfl) dX0_init_15 (fun q2 k2 H hK hP hD hS => ?_)
  have hP : va_P D vwCl [(h0, .inr (0, [.ref q1, .null, .int 0, .int 0, .int 0])), (q1, .inl (k1, 9, .inl (fun _ => 0))), (q2, .inl (k2, 9, .inl (fun _ => 0)))] H := hP
  have hD : va_D A [(h0, .inr (0, [.ref q1, .null, .int 0, .int 0, .int 0])), (q1, .inl (k1, 9, .inl (fun _ => 0))), (q2, .inl (k2, 9, .inl (fun _ => 0)))] := hD
  refine va_putF (D := D) (ci := 0) (v := .ref q2) (ty := .array .int) (C := RX0) (T := TX0) (N := 5) hx hb hts iX0_init_X0 tyX0 tyX0_ok nmX0 hown hK hP hD hS 0 rfl rfl 1 (by decide) (hts (.fieldLink RX0 15 "DecoyHouse$Plan" "marksOf" "[I") (by decide +kernel)) (fun _ h9 => h9) rfl hin rfl (by decide +kernel) rfl rfl (Nat.le_of_ble_eq_true rfl) dX0_init_17 (fun H locs hP hD hS => ?_)
  have hP : va_P D vwCl [(h0, .inr (0, [.ref q1, .ref q2, .int 0, .int 0, .int 0])), (q1, .inl (k1, 9, .inl (fun _ => 0))), (q2, .inl (k2, 9, .inl (fun _ => 0)))] H := hP
  have hD : va_D A [(h0, .inr (0, [.ref q1, .ref q2, .int 0, .int 0, .int 0])), (q1, .inl (k1, 9, .inl (fun _ => 0))), (q2, .inl (k2, 9, .inl (fun _ => 0)))] := hD
  exact hz ((fun k => ([h0, q1, q2] : List Nat).getD (k - 1) 0), (fun k => ([k1, k1, k2] : List ClassId).getD (k - 1) k1)) _ _ _ _ dX0_init_20 rfl hP hD hK hS

