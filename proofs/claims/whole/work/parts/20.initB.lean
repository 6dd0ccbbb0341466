theorem iX1_init_X1 : ∀ w ∈ wsX10, w ∈ wsX1_init := by decide +kernel
set_option maxHeartbeats 4000000 in
set_option maxRecDepth 100000 in
theorem c_X1_init (l : Launch) (D : va_G) (h0 sz : Nat) : Met l yX1_init wsX1_init { frames := 1, cells := 4, slots := 27, locals := 16 } (va_Pc [.ref h0] (gq_pre D [] [(h0, .inr (1, [.null, .null, .null, .null]))] sz)) (va_Qv (fun (u : (Nat → Nat) × (Nat → ClassId)) => u.1 7 = h0) (fun u t => gq_at D (va_A [(h0, .inr (1, [.null, .null, .null, .null]))] sz) (fun (u : (Nat → Nat) × (Nat → ClassId)) => wdR u.1 u.2 (fun _ => 0) (fun _ => 0) (fun _ => 0) (fun _ => 0)) u t ∧ va_K D vwCl ((fun (u : (Nat → Nat) × (Nat → ClassId)) => tyR u.2) u) t) (va_A [(h0, .inr (1, [.null, .null, .null, .null]))] sz)) 4 27 (va_A [(h0, .inr (1, [.null, .null, .null, .null]))] sz) := by
  refine gq_metn (cc := cX1_init) (maxL := 1) (lv := [(0, .ref h0)]) (by decide) rfl (Nat.le_of_ble_eq_true rfl) rfl rfl ?_
  intro p e s m below meth c A Q ls H locs hx hb hml hown hts hnw hA hK hP hD hS hl hin hz
  refine lv_aload_n hx hb dX1_init_0 rfl (lv_at hl 0 rfl) ?_
  refine W.objInit hx hb hown (hts (.methodLink RX1 3 objectInit) (by decide +kernel)) (hts (.instanceMethod objectInit) (by decide +kernel)) (hts (.code objectInit ⟨#[0xb1]⟩ 1 none) (List.mem_of_getElem? (i := 3) rfl)) rfl (by rw [hml]; exact hl.1) rfl dX1_init_1 (Nat.le_of_ble_eq_true rfl) (Nat.le_of_ble_eq_true rfl) ?_
  refine W.eq (g2 := F0 m 4 ls []) rfl ?_
  refine lv_aload_n hx hb dX1_init_4 rfl (lv_at hl 0 rfl) ?_
  refine lv_bipush (v := 6) hx hb dX1_init_5 (by decide) ?_
  refine va_newa (atype := .int) (n := 6) (N' := 6) (a0 := (6, .inl (fun _ => 0))) (ty := .int) hx hb (hts (.arrayClass .int) (by decide +kernel)) rfl hK hP hD hS hA (fun _ => rfl) (by decide +kernel) (by decide +kernel) (by decide +kernel) (Nat.le_of_ble_eq_true rfl) (Nat.le_of_ble_eq_true rfl) dX1_init_7 (fun q1 k1 H hK hP hD hS => ?_)
  have hP : va_P D vwCl [(h0, .inr (1, [.null, .null, .null, .null])), (q1, .inl (k1, 6, .inl (fun _ => 0)))] H := hP
  have hD : va_D A [(h0, .inr (1, [.null, .null, .null, .null])), (q1, .inl (k1, 6, .inl (fun _ => 0)))] := hD
  refine va_putF (D := D) (ci := 1) (v := .ref q1) (ty := .array .int) (C := RX1) (T := TX1) (N := 4) hx hb hts iX1_init_X1 tyX1 tyX1_ok nmX1 hown hK hP hD hS 0 rfl rfl 0 (by decide) (hts (.fieldLink RX1 9 "DecoyHouse$Rounds" "timesOf" "[I") (by decide +kernel)) (fun _ h9 => h9) rfl hin rfl (by decide +kernel) rfl rfl (Nat.le_of_ble_eq_true rfl) dX1_init_9 (fun H locs hP hD hS => ?_)
  have hP : va_P D vwCl [(h0, .inr (1, [.ref q1, .null, .null, .null])), (q1, .inl (k1, 6, .inl (fun _ => 0)))] H := hP
  have hD : va_D A [(h0, .inr (1, [.ref q1, .null, .null, .null])), (q1, .inl (k1, 6, .inl (fun _ => 0)))] := hD
  refine lv_aload_n hx hb dX1_init_12 rfl (lv_at hl 0 rfl) ?_
  refine lv_bipush (v := 6) hx hb dX1_init_13 (by decide) ?_
  refine va_newa (atype := .int) (n := 6) (N' := 6) (a0 := (6, .inl (fun _ => 0))) (ty := .int) hx hb (hts (.arrayClass .int) (by decide +kernel)) rfl hK hP hD hS hA (fun _ => rfl) (by decide +kernel) (by decide +kernel) (by decide +kernel) (Nat.le_of_ble_eq_true rfl) (Nat.le_of_ble_eq_true rfl) dX1_init_15 (fun q2 k2 H hK hP hD hS => ?_)
  have hP : va_P D vwCl [(h0, .inr (1, [.ref q1, .null, .null, .null])), (q1, .inl (k1, 6, .inl (fun _ => 0))), (q2, .inl (k2, 6, .inl (fun _ => 0)))] H := hP
  have hD : va_D A [(h0, .inr (1, [.ref q1, .null, .null, .null])), (q1, .inl (k1, 6, .inl (fun _ => 0))), (q2, .inl (k2, 6, .inl (fun _ => 0)))] := hD
  refine va_putF (D := D) (ci := 1) (v := .ref q2) (ty := .array .int) (C := RX1) (T := TX1) (N := 4) hx hb hts iX1_init_X1 tyX1 tyX1_ok nmX1 hown hK hP hD hS 0 rfl rfl 1 (by decide) (hts (.fieldLink RX1 15 "DecoyHouse$Rounds" "lengthOf" "[I") (by decide +kernel)) (fun _ h9 => h9) rfl hin rfl (by decide +kernel) rfl rfl (Nat.le_of_ble_eq_true rfl) dX1_init_17 (fun H locs hP hD hS => ?_)
  have hP : va_P D vwCl [(h0, .inr (1, [.ref q1, .ref q2, .null, .null])), (q1, .inl (k1, 6, .inl (fun _ => 0))), (q2, .inl (k2, 6, .inl (fun _ => 0)))] H := hP
  have hD : va_D A [(h0, .inr (1, [.ref q1, .ref q2, .null, .null])), (q1, .inl (k1, 6, .inl (fun _ => 0))), (q2, .inl (k2, 6, .inl (fun _ => 0)))] := hD
  refine lv_aload_n hx hb dX1_init_20 rfl (lv_at hl 0 rfl) ?_
  refine lv_bipush (v := 6) hx hb dX1_init_21 (by decide) ?_
  refine va_newa (atype := .int) (n := 6) (N' := 6) (a0 := (6, .inl (fun _ => 0))) (ty := .int) hx hb (hts (.arrayClass .int) (by decide +kernel)) rfl hK hP hD hS hA (fun _ => rfl) (by decide +kernel) (by decide +kernel) (by decide +kernel) (Nat.le_of_ble_eq_true rfl) (Nat.le_of_ble_eq_true rfl) dX1_init_23 (fun q3 k3 H hK hP hD hS => ?_)
  have hP : va_P D vwCl [(h0, .inr (1, [.ref q1, .ref q2, .null, .null])), (q1, .inl (k1, 6, .inl (fun _ => 0))), (q2, .inl (k2, 6, .inl (fun _ => 0))), (q3, .inl (k3, 6, .inl (fun _ => 0)))] H := hP
  have hD : va_D A [(h0, .inr (1, [.ref q1, .ref q2, .null, .null])), (q1, .inl (k1, 6, .inl (fun _ => 0))), (q2, .inl (k2, 6, .inl (fun _ => 0))), (q3, .inl (k3, 6, .inl (fun _ => 0)))] := hD
  refine va_putF (D := D) (ci := 1) (v := .ref q3) (ty := .array .int) (C := RX1) (T := TX1) (N := 4) hx hb hts iX1_init_X1 tyX1 tyX1_ok nmX1 hown hK hP hD hS 0 rfl rfl 2 (by decide) (hts (.fieldLink RX1 18 "DecoyHouse$Rounds" "rowOf" "[I") (by decide +kernel)) (fun _ h9 => h9) rfl hin rfl (by decide +kernel) rfl rfl (Nat.le_of_ble_eq_true rfl) dX1_init_25 (fun H locs hP hD hS => ?_)
  have hP : va_P D vwCl [(h0, .inr (1, [.ref q1, .ref q2, .ref q3, .null])), (q1, .inl (k1, 6, .inl (fun _ => 0))), (q2, .inl (k2, 6, .inl (fun _ => 0))), (q3, .inl (k3, 6, .inl (fun _ => 0)))] H := hP
  have hD : va_D A [(h0, .inr (1, [.ref q1, .ref q2, .ref q3, .null])), (q1, .inl (k1, 6, .inl (fun _ => 0))), (q2, .inl (k2, 6, .inl (fun _ => 0))), (q3, .inl (k3, 6, .inl (fun _ => 0)))] := hD
  refine lv_aload_n hx hb dX1_init_28 rfl (lv_at hl 0 rfl) ?_
  refine lv_bipush (v := 9) hx hb dX1_init_29 (by decide) ?_
  refine va_newa (atype := .int) (n := 9) (N' := 9) (a0 := (9, .inl (fun _ => 0))) (ty := .int) hx hb (hts (.arrayClass .int) (by decide +kernel)) rfl hK hP hD hS hA (fun _ => rfl) (by decide +kernel) (by decide +kernel) (by decide +kernel) (Nat.le_of_ble_eq_true rfl) (Nat.le_of_ble_eq_true rfl) dX1_init_31 (fun q4 k4 H hK hP hD hS => ?_)
  have hP : va_P D vwCl [(h0, .inr (1, [.ref q1, .ref q2, .ref q3, .null])), (q1, .inl (k1, 6, .inl (fun _ => 0))), (q2, .inl (k2, 6, .inl (fun _ => 0))), (q3, .inl (k3, 6, .inl (fun _ => 0))), (q4, .inl (k4, 9, .inl (fun _ => 0)))] H := hP
  have hD : va_D A [(h0, .inr (1, [.ref q1, .ref q2, .ref q3, .null])), (q1, .inl (k1, 6, .inl (fun _ => 0))), (q2, .inl (k2, 6, .inl (fun _ => 0))), (q3, .inl (k3, 6, .inl (fun _ => 0))), (q4, .inl (k4, 9, .inl (fun _ => 0)))] := hD
  refine va_putF (D := D) (ci := 1) (v := .ref q4) (ty := .array .int) (C := RX1) (T := TX1) (N := 4) hx hb hts iX1_init_X1 tyX1 tyX1_ok nmX1 hown hK hP hD hS 0 rfl rfl 3 (by decide) (hts (.fieldLink RX1 21 "DecoyHouse$Rounds" "touchesAt" "[I") (by decide +kernel)) (fun _ h9 => h9) rfl hin rfl (by decide +kernel) rfl rfl (Nat.le_of_ble_eq_true rfl) dX1_init_33 (fun H locs hP hD hS => ?_)
  have hP : va_P D vwCl [(h0, .inr (1, [.ref q1, .ref q2, .ref q3, .ref q4])), (q1, .inl (k1, 6, .inl (fun _ => 0))), (q2, .inl (k2, 6, .inl (fun _ => 0))), (q3, .inl (k3, 6, .inl (fun _ => 0))), (q4, .inl (k4, 9, .inl (fun _ => 0)))] H := hP
  have hD : va_D A [(h0, .inr (1, [.ref q1, .ref q2, .ref q3, .ref q4])), (q1, .inl (k1, 6, .inl (fun _ => 0))), (q2, .inl (k2, 6, .inl (fun _ => 0))), (q3, .inl (k3, 6, .inl (fun _ => 0))), (q4, .inl (k4, 9, .inl (fun _ => 0)))] := hD
  exact hz ((fun k => ([h0, q1, q2, q3, q4] : List Nat).getD (k - 7) 0), (fun k => ([k1, k1, k2, k3, k4] : List ClassId).getD (k - 7) k1)) _ _ _ _ dX1_init_36 rfl hP hD hK hS

theorem iX2_init_X2 : ∀ w ∈ wsX20, w ∈ wsX2_init := by decide +kernel
set_option maxHeartbeats 4000000 in
set_option maxRecDepth 100000 in
theorem c_X2_init (l : Launch) (D : va_G) (h0 sz : Nat) : Met l yX2_init wsX2_init { frames := 1, cells := 3, slots := 24, locals := 16 } (va_Pc [.ref h0] (gq_pre D [] [(h0, .inr (2, [.null, .null, .null, .int 0, .int 0, .int 0, .int 0]))] sz)) (va_Qv (fun (u : (Nat → Nat) × (Nat → ClassId)) => u.1 12 = h0) (fun u t => gq_at D (va_A [(h0, .inr (2, [.null, .null, .null, .int 0, .int 0, .int 0, .int 0]))] sz) (fun (u : (Nat → Nat) × (Nat → ClassId)) => wdW u.1 u.2 (fun _ => 0) (fun _ => 0) (fun _ => 0) 0 0 0 0) u t ∧ va_K D vwCl ((fun (u : (Nat → Nat) × (Nat → ClassId)) => tyW u.2) u) t) (va_A [(h0, .inr (2, [.null, .null, .null, .int 0, .int 0, .int 0, .int 0]))] sz)) 3 24 (va_A [(h0, .inr (2, [.null, .null, .null, .int 0, .int 0, .int 0, .int 0]))] sz) := by
  refine gq_metn (cc := cX2_init) (maxL := 1) (lv := [(0, .ref h0)]) (by decide) rfl (Nat.le_of_ble_eq_true rfl) rfl rfl ?_
  intro p e s m below meth c A Q ls H locs hx hb hml hown hts hnw hA hK hP hD hS hl hin hz
  refine lv_aload_n hx hb dX2_init_0 rfl (lv_at hl 0 rfl) ?_
  refine W.objInit hx hb hown (hts (.methodLink RX2 3 objectInit) (by decide +kernel)) (hts (.instanceMethod objectInit) (by decide +kernel)) (hts (.code objectInit ⟨#[0xb1]⟩ 1 none) (List.mem_of_getElem? (i := 3) rfl)) rfl (by rw [hml]; exact hl.1) rfl dX2_init_1 (Nat.le_of_ble_eq_true rfl) (Nat.le_of_ble_eq_true rfl) ?_
  refine W.eq (g2 := F0 m 4 ls []) rfl ?_
  refine lv_aload_n hx hb dX2_init_4 rfl (lv_at hl 0 rfl) ?_
  refine lv_bipush (v := 6) hx hb dX2_init_5 (by decide) ?_
  refine va_newa (atype := .int) (n := 6) (N' := 6) (a0 := (6, .inl (fun _ => 0))) (ty := .int) hx hb (hts (.arrayClass .int) (by decide +kernel)) rfl hK hP hD hS hA (fun _ => rfl) (by decide +kernel) (by decide +kernel) (by decide +kernel) (Nat.le_of_ble_eq_true rfl) (Nat.le_of_ble_eq_true rfl) dX2_init_7 (fun q1 k1 H hK hP hD hS => ?_)
  have hP : va_P D vwCl [(h0, .inr (2, [.null, .null, .null, .int 0, .int 0, .int 0, .int 0])), (q1, .inl (k1, 6, .inl (fun _ => 0)))] H := hP
  have hD : va_D A [(h0, .inr (2, [.null, .null, .null, .int 0, .int 0, .int 0, .int 0])), (q1, .inl (k1, 6, .inl (fun _ => 0)))] := hD
  refine va_putF (D := D) (ci := 2) (v := .ref q1) (ty := .array .int) (C := RX2) (T := TX2) (N := 7) hx hb hts iX2_init_X2 tyX2 tyX2_ok nmX2 hown hK hP hD hS 0 rfl rfl 0 (by decide) (hts (.fieldLink RX2 9 "DecoyHouse$Watch" "tale" "[I") (by decide +kernel)) (fun _ h9 => h9) rfl hin rfl (by decide +kernel) rfl rfl (Nat.le_of_ble_eq_true rfl) dX2_init_9 (fun H locs hP hD hS => ?_)
  have hP : va_P D vwCl [(h0, .inr (2, [.ref q1, .null, .null, .int 0, .int 0, .int 0, .int 0])), (q1, .inl (k1, 6, .inl (fun _ => 0)))] H := hP
  have hD : va_D A [(h0, .inr (2, [.ref q1, .null, .null, .int 0, .int 0, .int 0, .int 0])), (q1, .inl (k1, 6, .inl (fun _ => 0)))] := hD
  refine lv_aload_n hx hb dX2_init_12 rfl (lv_at hl 0 rfl) ?_
  refine lv_bipush (v := 9) hx hb dX2_init_13 (by decide) ?_
  refine va_newa (atype := .int) (n := 9) (N' := 9) (a0 := (9, .inl (fun _ => 0))) (ty := .int) hx hb (hts (.arrayClass .int) (by decide +kernel)) rfl hK hP hD hS hA (fun _ => rfl) (by decide +kernel) (by decide +kernel) (by decide +kernel) (Nat.le_of_ble_eq_true rfl) (Nat.le_of_ble_eq_true rfl) dX2_init_15 (fun q2 k2 H hK hP hD hS => ?_)
  have hP : va_P D vwCl [(h0, .inr (2, [.ref q1, .null, .null, .int 0, .int 0, .int 0, .int 0])), (q1, .inl (k1, 6, .inl (fun _ => 0))), (q2, .inl (k2, 9, .inl (fun _ => 0)))] H := hP
  have hD : va_D A [(h0, .inr (2, [.ref q1, .null, .null, .int 0, .int 0, .int 0, .int 0])), (q1, .inl (k1, 6, .inl (fun _ => 0))), (q2, .inl (k2, 9, .inl (fun _ => 0)))] := hD
  refine va_putF (D := D) (ci := 2) (v := .ref q2) (ty := .array .int) (C := RX2) (T := TX2) (N := 7) hx hb hts iX2_init_X2 tyX2 tyX2_ok nmX2 hown hK hP hD hS 0 rfl rfl 1 (by decide) (hts (.fieldLink RX2 15 "DecoyHouse$Watch" "talesAt" "[I") (by decide +kernel)) (fun _ h9 => h9) rfl hin rfl (by decide +kernel) rfl rfl (Nat.le_of_ble_eq_true rfl) dX2_init_17 (fun H locs hP hD hS => ?_)
  have hP : va_P D vwCl [(h0, .inr (2, [.ref q1, .ref q2, .null, .int 0, .int 0, .int 0, .int 0])), (q1, .inl (k1, 6, .inl (fun _ => 0))), (q2, .inl (k2, 9, .inl (fun _ => 0)))] H := hP
  have hD : va_D A [(h0, .inr (2, [.ref q1, .ref q2, .null, .int 0, .int 0, .int 0, .int 0])), (q1, .inl (k1, 6, .inl (fun _ => 0))), (q2, .inl (k2, 9, .inl (fun _ => 0)))] := hD
  refine lv_aload_n hx hb dX2_init_20 rfl (lv_at hl 0 rfl) ?_
  refine lv_bipush (v := 9) hx hb dX2_init_21 (by decide) ?_
  refine va_newa (atype := .int) (n := 9) (N' := 9) (a0 := (9, .inl (fun _ => 0))) (ty := .int) hx hb (hts (.arrayClass .int) (by decide +kernel)) rfl hK hP hD hS hA (fun _ => rfl) (by decide +kernel) (by decide +kernel) (by decide +kernel) (Nat.le_of_ble_eq_true rfl) (Nat.le_of_ble_eq_true rfl) dX2_init_23 (fun q3 k3 H hK hP hD hS => ?_)
  have hP : va_P D vwCl [(h0, .inr (2, [.ref q1, .ref q2, .null, .int 0, .int 0, .int 0, .int 0])), (q1, .inl (k1, 6, .inl (fun _ => 0))), (q2, .inl (k2, 9, .inl (fun _ => 0))), (q3, .inl (k3, 9, .inl (fun _ => 0)))] H := hP
  have hD : va_D A [(h0, .inr (2, [.ref q1, .ref q2, .null, .int 0, .int 0, .int 0, .int 0])), (q1, .inl (k1, 6, .inl (fun _ => 0))), (q2, .inl (k2, 9, .inl (fun _ => 0))), (q3, .inl (k3, 9, .inl (fun _ => 0)))] := hD
  refine va_putF (D := D) (ci := 2) (v := .ref q3) (ty := .array .int) (C := RX2) (T := TX2) (N := 7) hx hb hts iX2_init_X2 tyX2 tyX2_ok nmX2 hown hK hP hD hS 0 rfl rfl 2 (by decide) (hts (.fieldLink RX2 18 "DecoyHouse$Watch" "knownUntil" "[I") (by decide +kernel)) (fun _ h9 => h9) rfl hin rfl (by decide +kernel) rfl rfl (Nat.le_of_ble_eq_true rfl) dX2_init_25 (fun H locs hP hD hS => ?_)
  have hP : va_P D vwCl [(h0, .inr (2, [.ref q1, .ref q2, .ref q3, .int 0, .int 0, .int 0, .int 0])), (q1, .inl (k1, 6, .inl (fun _ => 0))), (q2, .inl (k2, 9, .inl (fun _ => 0))), (q3, .inl (k3, 9, .inl (fun _ => 0)))] H := hP
  have hD : va_D A [(h0, .inr (2, [.ref q1, .ref q2, .ref q3, .int 0, .int 0, .int 0, .int 0])), (q1, .inl (k1, 6, .inl (fun _ => 0))), (q2, .inl (k2, 9, .inl (fun _ => 0))), (q3, .inl (k3, 9, .inl (fun _ => 0)))] := hD
  exact hz ((fun k => ([h0, q1, q2, q3] : List Nat).getD (k - 12) 0), (fun k => ([k1, k1, k2, k3] : List ClassId).getD (k - 12) k1)) _ _ _ _ dX2_init_28 rfl hP hD hK hS

theorem iX3_init_X3 : ∀ w ∈ wsX30, w ∈ wsX3_init := by decide +kernel
set_option maxHeartbeats 4000000 in
set_option maxRecDepth 100000 in
theorem c_X3_init (l : Launch) (D : va_G) (h0 sz : Nat) : Met l yX3_init wsX3_init { frames := 1, cells := 2, slots := 2512, locals := 16 } (va_Pc [.ref h0] (gq_pre D [] [(h0, .inr (3, [.null, .null, .int 0, .int 0]))] sz)) (va_Qv (fun (u : (Nat → Nat) × (Nat → ClassId)) => u.1 4 = h0) (fun u t => gq_at D (va_A [(h0, .inr (3, [.null, .null, .int 0, .int 0]))] sz) (fun (u : (Nat → Nat) × (Nat → ClassId)) => wdB u.1 u.2 (fun _ => 0) (fun _ => 0) 0 0) u t ∧ va_K D vwCl ((fun (u : (Nat → Nat) × (Nat → ClassId)) => tyB u.2) u) t) (va_A [(h0, .inr (3, [.null, .null, .int 0, .int 0]))] sz)) 2 2512 (va_A [(h0, .inr (3, [.null, .null, .int 0, .int 0]))] sz) := by
  refine gq_metn (cc := cX3_init) (maxL := 1) (lv := [(0, .ref h0)]) (by decide) rfl (Nat.le_of_ble_eq_true rfl) rfl rfl ?_
  intro p e s m below meth c A Q ls H locs hx hb hml hown hts hnw hA hK hP hD hS hl hin hz
  refine lv_aload_n hx hb dX3_init_0 rfl (lv_at hl 0 rfl) ?_
  refine W.objInit hx hb hown (hts (.methodLink RX3 3 objectInit) (by decide +kernel)) (hts (.instanceMethod objectInit) (by decide +kernel)) (hts (.code objectInit ⟨#[0xb1]⟩ 1 none) (List.mem_of_getElem? (i := 3) rfl)) rfl (by rw [hml]; exact hl.1) rfl dX3_init_1 (Nat.le_of_ble_eq_true rfl) (Nat.le_of_ble_eq_true rfl) ?_
  refine W.eq (g2 := F0 m 4 ls []) rfl ?_
  refine lv_aload_n hx hb dX3_init_4 rfl (lv_at hl 0 rfl) ?_
  refine lv_sipush (v := 2000) hx hb dX3_init_5 (by decide) ?_
  refine va_newa (atype := .int) (n := 2000) (N' := 2000) (a0 := (2000, .inl (fun _ => 0))) (ty := .int) hx hb (hts (.arrayClass .int) (by decide +kernel)) rfl hK hP hD hS hA (fun _ => rfl) (by decide +kernel) (by decide +kernel) (by decide +kernel) (Nat.le_of_ble_eq_true rfl) (Nat.le_of_ble_eq_true rfl) dX3_init_8 (fun q1 k1 H hK hP hD hS => ?_)
  have hP : va_P D vwCl [(h0, .inr (3, [.null, .null, .int 0, .int 0])), (q1, .inl (k1, 2000, .inl (fun _ => 0)))] H := hP
  have hD : va_D A [(h0, .inr (3, [.null, .null, .int 0, .int 0])), (q1, .inl (k1, 2000, .inl (fun _ => 0)))] := hD
  refine va_putF (D := D) (ci := 3) (v := .ref q1) (ty := .array .int) (C := RX3) (T := TX3) (N := 4) hx hb hts iX3_init_X3 tyX3 tyX3_ok nmX3 hown hK hP hD hS 0 rfl rfl 0 (by decide) (hts (.fieldLink RX3 9 "DecoyHouse$WayBook" "trails" "[I") (by decide +kernel)) (fun _ h9 => h9) rfl hin rfl (by decide +kernel) rfl rfl (Nat.le_of_ble_eq_true rfl) dX3_init_10 (fun H locs hP hD hS => ?_)
  have hP : va_P D vwCl [(h0, .inr (3, [.ref q1, .null, .int 0, .int 0])), (q1, .inl (k1, 2000, .inl (fun _ => 0)))] H := hP
  have hD : va_D A [(h0, .inr (3, [.ref q1, .null, .int 0, .int 0])), (q1, .inl (k1, 2000, .inl (fun _ => 0)))] := hD
  refine lv_aload_n hx hb dX3_init_13 rfl (lv_at hl 0 rfl) ?_
  refine lv_sipush (v := 512) hx hb dX3_init_14 (by decide) ?_
  refine va_newa (atype := .int) (n := 512) (N' := 512) (a0 := (512, .inl (fun _ => 0))) (ty := .int) hx hb (hts (.arrayClass .int) (by decide +kernel)) rfl hK hP hD hS hA (fun _ => rfl) (by decide +kernel) (by decide +kernel) (by decide +kernel) (Nat.le_of_ble_eq_true rfl) (Nat.le_of_ble_eq_true rfl) dX3_init_17 (fun q2 k2 H hK hP hD hS => ?_)
  have hP : va_P D vwCl [(h0, .inr (3, [.ref q1, .null, .int 0, .int 0])), (q1, .inl (k1, 2000, .inl (fun _ => 0))), (q2, .inl (k2, 512, .inl (fun _ => 0)))] H := hP
  have hD : va_D A [(h0, .inr (3, [.ref q1, .null, .int 0, .int 0])), (q1, .inl (k1, 2000, .inl (fun _ => 0))), (q2, .inl (k2, 512, .inl (fun _ => 0)))] := hD
  refine va_putF (D := D) (ci := 3) (v := .ref q2) (ty := .array .int) (C := RX3) (T := TX3) (N := 4) hx hb hts iX3_init_X3 tyX3 tyX3_ok nmX3 hown hK hP hD hS 0 rfl rfl 1 (by decide) (hts (.fieldLink RX3 15 "DecoyHouse$WayBook" "inside" "[I") (by decide +kernel)) (fun _ h9 => h9) rfl hin rfl (by decide +kernel) rfl rfl (Nat.le_of_ble_eq_true rfl) dX3_init_19 (fun H locs hP hD hS => ?_)
  have hP : va_P D vwCl [(h0, .inr (3, [.ref q1, .ref q2, .int 0, .int 0])), (q1, .inl (k1, 2000, .inl (fun _ => 0))), (q2, .inl (k2, 512, .inl (fun _ => 0)))] H := hP
  have hD : va_D A [(h0, .inr (3, [.ref q1, .ref q2, .int 0, .int 0])), (q1, .inl (k1, 2000, .inl (fun _ => 0))), (q2, .inl (k2, 512, .inl (fun _ => 0)))] := hD
  exact hz ((fun k => ([h0, q1, q2] : List Nat).getD (k - 4) 0), (fun k => ([k1, k1, k2] : List ClassId).getD (k - 4) k1)) _ _ _ _ dX3_init_22 rfl hP hD hK hS

