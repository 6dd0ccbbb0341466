def wp_X2_clear  (Wa : Nat → Int32) (Wk : Nat → Int32) (Wd : Int32) (Wn : Int32) (We : Int32) (Wb : Int32) (post : (Nat → Int32) → (Nat → Int32) → Int32 → Int32 → Int32 → Int32 → Prop) : Prop :=
  gq_nm (gq_fill 9 Wa 0) (fun Wa_1 : Nat → Int32 => gq_nm (gq_fill 9 Wk 0) (fun Wk_3 : Nat → Int32 => post Wa_1 Wk_3 0 0 0 3))

theorem iX2_clear_X2 : ∀ w ∈ wsX20, w ∈ wsX2_clear := by decide +kernel
set_option maxHeartbeats 4000000 in
set_option maxRecDepth 100000 in
theorem c_X2_clear (l : Launch) (D : va_G) (ad : Nat → Nat) (ck : Nat → ClassId) (sz : Nat) (Wt : Nat → Int32) (Wa : Nat → Int32) (Wk : Nat → Int32) (Wd : Int32) (Wn : Int32) (We : Int32) (Wb : Int32)  (post : (Nat → Int32) → (Nat → Int32) → Int32 → Int32 → Int32 → Int32 → Prop) (hw : wp_X2_clear Wa Wk Wd Wn We Wb post) : Met l yX2_clear wsX2_clear { frames := 1, cells := 0, slots := 0, locals := 23 } (va_Pc [.ref (ad 12)] (gq_pre D (tyW ck) (wdW ad ck Wt Wa Wk Wd Wn We Wb) sz)) (va_Qv (fun (u : (Nat → Int32) × (Nat → Int32) × Int32 × Int32 × Int32 × Int32) => post u.1 u.2.1 u.2.2.1 u.2.2.2.1 u.2.2.2.2.1 u.2.2.2.2.2) (gq_at D (va_A (wdW ad ck Wt Wa Wk Wd Wn We Wb) sz) (fun (u : (Nat → Int32) × (Nat → Int32) × Int32 × Int32 × Int32 × Int32) => (wdW ad ck Wt u.1 u.2.1 u.2.2.1 u.2.2.2.1 u.2.2.2.2.1 u.2.2.2.2.2))) (va_A (wdW ad ck Wt Wa Wk Wd Wn We Wb) sz)) 0 0 (va_A (wdW ad ck Wt Wa Wk Wd Wn We Wb) sz) := by
  refine gq_metv (cc := cX2_clear) (maxL := 1) (lv := [(0, .ref (ad 12))]) (by decide) rfl (Nat.le_of_ble_eq_true rfl) rfl ?_
  intro p e s m below meth c A Q ls H locs hx hb hml hown hts hnw hA hK hP hD hS hl hz
  refine lv_aload_n hx hb dX2_clear_0 rfl (lv_at hl 0 rfl) ?_
  refine va_get (D := D) (ci := 2) (v := .ref (ad 14)) (C := RX2) (T := TX2) (N := 7) hx hb hts iX2_clear_X2 hown hK hP 0 rfl rfl 1 (by decide) (hts (.fieldLink RX2 15 "DecoyHouse$Watch" "talesAt" "[I") (by decide +kernel)) (fun _ h9 => h9) rfl dX2_clear_1 ?_
  refine lv_iconst (v := 0) hx hb dX2_clear_4 (by decide) ?_
  refine gq_callv (wsN := fun u => (wdW ad ck Wt u Wk Wd Wn We Wb)) (va_runS (As := [.ref (ad 14), .int 0]) (rest := []) ⟨hx, hb, hml, hown, hts⟩ (c_J7_fill l D (ad 14) (ck 14) 9 H.size Wa 0 (by decide)) (va_cwS 2 hts gX2_clear_J7_fill_53178 rfl rfl rfl (by decide +kernel) ⟨Nat.le_of_ble_eq_true rfl, Nat.le_of_ble_eq_true rfl⟩) (gq_preS hK [1] rfl hP hD [2] rfl rfl hnw) rfl rfl hl.1 rfl (lv_room (Nat.le_of_ble_eq_true rfl)) dX2_clear_5 ⟨Nat.zero_le _, Nat.zero_le _⟩) hP hD hS hA [2] [0, 1, 3] rfl rfl rfl (by decide) [0, 1, 3, 2] rfl (fun _ => rfl) (fun Wa_1 H locs hf hP hD hS => ?_)
  have hw := gq_at1 hw hf
  have hP : va_P D vwCl (wdW ad ck Wt Wa_1 Wk Wd Wn We Wb) H := hP
  have hD : va_D A (wdW ad ck Wt Wa_1 Wk Wd Wn We Wb) := hD
  refine lv_aload_n hx hb dX2_clear_8 rfl (lv_at hl 0 rfl) ?_
  refine va_get (D := D) (ci := 2) (v := .ref (ad 15)) (C := RX2) (T := TX2) (N := 7) hx hb hts iX2_clear_X2 hown hK hP 0 rfl rfl 2 (by decide) (hts (.fieldLink RX2 18 "DecoyHouse$Watch" "knownUntil" "[I") (by decide +kernel)) (fun _ h9 => h9) rfl dX2_clear_9 ?_
  refine lv_iconst (v := 0) hx hb dX2_clear_12 (by decide) ?_
  refine gq_callv (wsN := fun u => (wdW ad ck Wt Wa_1 u Wd Wn We Wb)) (va_runS (As := [.ref (ad 15), .int 0]) (rest := []) ⟨hx, hb, hml, hown, hts⟩ (c_J7_fill l D (ad 15) (ck 15) 9 H.size Wk 0 (by decide)) (va_cwS 2 hts gX2_clear_J7_fill_53178 rfl rfl rfl (by decide +kernel) ⟨Nat.le_of_ble_eq_true rfl, Nat.le_of_ble_eq_true rfl⟩) (gq_preS hK [2] rfl hP hD [3] rfl rfl hnw) rfl rfl hl.1 rfl (lv_room (Nat.le_of_ble_eq_true rfl)) dX2_clear_13 ⟨Nat.zero_le _, Nat.zero_le _⟩) hP hD hS hA [3] [0, 1, 2] rfl rfl rfl (by decide) [0, 1, 2, 3] rfl (fun _ => rfl) (fun Wk_3 H locs hf hP hD hS => ?_)
  have hw := gq_at1 hw hf
  have hP : va_P D vwCl (wdW ad ck Wt Wa_1 Wk_3 Wd Wn We Wb) H := hP
  have hD : va_D A (wdW ad ck Wt Wa_1 Wk_3 Wd Wn We Wb) := hD
  refine lv_aload_n hx hb dX2_clear_16 rfl (lv_at hl 0 rfl) ?_
  refine lv_iconst (v := 0) hx hb dX2_clear_17 (by decide) ?_
  refine va_put (D := D) (ci := 2) (v := .int 0) (ty := .int) (C := RX2) (T := TX2) (N := 7) hx hb hts iX2_clear_X2 tyX2 tyX2_ok nmX2 hown hK hP hD hS 0 rfl rfl 3 (by decide) (hts (.fieldLink RX2 27 "DecoyHouse$Watch" "decoys" "I") (by decide +kernel)) (fun _ h9 => h9) rfl (by decide +kernel) rfl rfl (Nat.le_of_ble_eq_true rfl) dX2_clear_18 (fun H locs hP hD hS => ?_)
  have hP : va_P D vwCl (wdW ad ck Wt Wa_1 Wk_3 0 Wn We Wb) H := hP
  have hD : va_D A (wdW ad ck Wt Wa_1 Wk_3 0 Wn We Wb) := hD
  refine lv_aload_n hx hb dX2_clear_21 rfl (lv_at hl 0 rfl) ?_
  refine lv_iconst (v := 0) hx hb dX2_clear_22 (by decide) ?_
  refine va_put (D := D) (ci := 2) (v := .int 0) (ty := .int) (C := RX2) (T := TX2) (N := 7) hx hb hts iX2_clear_X2 tyX2 tyX2_ok nmX2 hown hK hP hD hS 0 rfl rfl 4 (by decide) (hts (.fieldLink RX2 31 "DecoyHouse$Watch" "touches" "I") (by decide +kernel)) (fun _ h9 => h9) rfl (by decide +kernel) rfl rfl (Nat.le_of_ble_eq_true rfl) dX2_clear_23 (fun H locs hP hD hS => ?_)
  have hP : va_P D vwCl (wdW ad ck Wt Wa_1 Wk_3 0 0 We Wb) H := hP
  have hD : va_D A (wdW ad ck Wt Wa_1 Wk_3 0 0 We Wb) := hD
  refine lv_aload_n hx hb dX2_clear_26 rfl (lv_at hl 0 rfl) ?_
  refine lv_iconst (v := 0) hx hb dX2_clear_27 (by decide) ?_
  refine va_put (D := D) (ci := 2) (v := .int 0) (ty := .int) (C := RX2) (T := TX2) (N := 7) hx hb hts iX2_clear_X2 tyX2 tyX2_ok nmX2 hown hK hP hD hS 0 rfl rfl 5 (by decide) (hts (.fieldLink RX2 34 "DecoyHouse$Watch" "date" "I") (by decide +kernel)) (fun _ h9 => h9) rfl (by decide +kernel) rfl rfl (Nat.le_of_ble_eq_true rfl) dX2_clear_28 (fun H locs hP hD hS => ?_)
  have hP : va_P D vwCl (wdW ad ck Wt Wa_1 Wk_3 0 0 0 Wb) H := hP
  have hD : va_D A (wdW ad ck Wt Wa_1 Wk_3 0 0 0 Wb) := hD
  refine lv_aload_n hx hb dX2_clear_31 rfl (lv_at hl 0 rfl) ?_
  refine lv_iconst (v := 3) hx hb dX2_clear_32 (by decide) ?_
  refine va_put (D := D) (ci := 2) (v := .int 3) (ty := .int) (C := RX2) (T := TX2) (N := 7) hx hb hts iX2_clear_X2 tyX2 tyX2_ok nmX2 hown hK hP hD hS 0 rfl rfl 6 (by decide) (hts (.fieldLink RX2 37 "DecoyHouse$Watch" "bearing" "I") (by decide +kernel)) (fun _ h9 => h9) rfl (by decide +kernel) rfl rfl (Nat.le_of_ble_eq_true rfl) dX2_clear_33 (fun H locs hP hD hS => ?_)
  have hP : va_P D vwCl (wdW ad ck Wt Wa_1 Wk_3 0 0 0 3) H := hP
  have hD : va_D A (wdW ad ck Wt Wa_1 Wk_3 0 0 0 3) := hD
  exact hz (Wa_1, Wk_3, 0, 0, 0, 3) _ _ _ _ dX2_clear_36 hw hP hD hS

def wp_X2_decoySet  (Wd : Int32) (post : Int32 → Prop) : Prop :=
  post Wd

theorem iX2_decoySet_X2 : ∀ w ∈ wsX20, w ∈ wsX2_decoySet := by decide +kernel
set_option maxHeartbeats 4000000 in
set_option maxRecDepth 100000 in
theorem c_X2_decoySet (l : Launch) (D : va_G) (ad : Nat → Nat) (ck : Nat → ClassId) (sz : Nat) (Wt : Nat → Int32) (Wa : Nat → Int32) (Wk : Nat → Int32) (Wd : Int32) (Wn : Int32) (We : Int32) (Wb : Int32)  (post : Int32 → Prop) (hw : wp_X2_decoySet Wd post) : Met l yX2_decoySet wsX2_decoySet { frames := 0, cells := 0, slots := 0, locals := 0 } (va_Pc [.ref (ad 12)] (gq_pre D (tyW ck) (wdW ad ck Wt Wa Wk Wd Wn We Wb) sz)) (va_Qi (fun (r : Int32) (_ : Unit) => post r ) (gq_at D (va_A (wdW ad ck Wt Wa Wk Wd Wn We Wb) sz) (fun (_ : Unit) => (wdW ad ck Wt Wa Wk Wd Wn We Wb))) (va_A (wdW ad ck Wt Wa Wk Wd Wn We Wb) sz)) 0 0 (va_A (wdW ad ck Wt Wa Wk Wd Wn We Wb) sz) := by
  refine gq_meti (cc := cX2_decoySet) (maxL := 1) (lv := [(0, .ref (ad 12))]) (by decide) rfl (Nat.le_of_ble_eq_true rfl) rfl ?_
  intro p e s m below meth c A Q ls H locs hx hb hml hown hts hnw hA hK hP hD hS hl hz
  refine lv_aload_n hx hb dX2_decoySet_0 rfl (lv_at hl 0 rfl) ?_
  refine va_get (D := D) (ci := 2) (v := .int Wd) (C := RX2) (T := TX2) (N := 7) hx hb hts iX2_decoySet_X2 hown hK hP 0 rfl rfl 3 (by decide) (hts (.fieldLink RX2 27 "DecoyHouse$Watch" "decoys" "I") (by decide +kernel)) (fun _ h9 => h9) rfl dX2_decoySet_1 ?_
  exact hz Wd () _ _ _ _ dX2_decoySet_4 hw hP hD hS

def wp_X2_touchCount  (Wn : Int32) (post : Int32 → Prop) : Prop :=
  post Wn

theorem iX2_touchCount_X2 : ∀ w ∈ wsX20, w ∈ wsX2_touchCount := by decide +kernel
set_option maxHeartbeats 4000000 in
set_option maxRecDepth 100000 in
theorem c_X2_touchCount (l : Launch) (D : va_G) (ad : Nat → Nat) (ck : Nat → ClassId) (sz : Nat) (Wt : Nat → Int32) (Wa : Nat → Int32) (Wk : Nat → Int32) (Wd : Int32) (Wn : Int32) (We : Int32) (Wb : Int32)  (post : Int32 → Prop) (hw : wp_X2_touchCount Wn post) : Met l yX2_touchCount wsX2_touchCount { frames := 0, cells := 0, slots := 0, locals := 0 } (va_Pc [.ref (ad 12)] (gq_pre D (tyW ck) (wdW ad ck Wt Wa Wk Wd Wn We Wb) sz)) (va_Qi (fun (r : Int32) (_ : Unit) => post r ) (gq_at D (va_A (wdW ad ck Wt Wa Wk Wd Wn We Wb) sz) (fun (_ : Unit) => (wdW ad ck Wt Wa Wk Wd Wn We Wb))) (va_A (wdW ad ck Wt Wa Wk Wd Wn We Wb) sz)) 0 0 (va_A (wdW ad ck Wt Wa Wk Wd Wn We Wb) sz) := by
  refine gq_meti (cc := cX2_touchCount) (maxL := 1) (lv := [(0, .ref (ad 12))]) (by decide) rfl (Nat.le_of_ble_eq_true rfl) rfl ?_
  intro p e s m below meth c A Q ls H locs hx hb hml hown hts hnw hA hK hP hD hS hl hz
  refine lv_aload_n hx hb dX2_touchCount_0 rfl (lv_at hl 0 rfl) ?_
  refine va_get (D := D) (ci := 2) (v := .int Wn) (C := RX2) (T := TX2) (N := 7) hx hb hts iX2_touchCount_X2 hown hK hP 0 rfl rfl 4 (by decide) (hts (.fieldLink RX2 31 "DecoyHouse$Watch" "touches" "I") (by decide +kernel)) (fun _ h9 => h9) rfl dX2_touchCount_1 ?_
  exact hz Wn () _ _ _ _ dX2_touchCount_4 hw hP hD hS

def wp_X2_today  (We : Int32) (post : Int32 → Prop) : Prop :=
  post We

theorem iX2_today_X2 : ∀ w ∈ wsX20, w ∈ wsX2_today := by decide +kernel
set_option maxHeartbeats 4000000 in
set_option maxRecDepth 100000 in
theorem c_X2_today (l : Launch) (D : va_G) (ad : Nat → Nat) (ck : Nat → ClassId) (sz : Nat) (Wt : Nat → Int32) (Wa : Nat → Int32) (Wk : Nat → Int32) (Wd : Int32) (Wn : Int32) (We : Int32) (Wb : Int32)  (post : Int32 → Prop) (hw : wp_X2_today We post) : Met l yX2_today wsX2_today { frames := 0, cells := 0, slots := 0, locals := 0 } (va_Pc [.ref (ad 12)] (gq_pre D (tyW ck) (wdW ad ck Wt Wa Wk Wd Wn We Wb) sz)) (va_Qi (fun (r : Int32) (_ : Unit) => post r ) (gq_at D (va_A (wdW ad ck Wt Wa Wk Wd Wn We Wb) sz) (fun (_ : Unit) => (wdW ad ck Wt Wa Wk Wd Wn We Wb))) (va_A (wdW ad ck Wt Wa Wk Wd Wn We Wb) sz)) 0 0 (va_A (wdW ad ck Wt Wa Wk Wd Wn We Wb) sz) := by
  refine gq_meti (cc := cX2_today) (maxL := 1) (lv := [(0, .ref (ad 12))]) (by decide) rfl (Nat.le_of_ble_eq_true rfl) rfl ?_
  intro p e s m below meth c A Q ls H locs hx hb hml hown hts hnw hA hK hP hD hS hl hz
  refine lv_aload_n hx hb dX2_today_0 rfl (lv_at hl 0 rfl) ?_
  refine va_get (D := D) (ci := 2) (v := .int We) (C := RX2) (T := TX2) (N := 7) hx hb hts iX2_today_X2 hown hK hP 0 rfl rfl 5 (by decide) (hts (.fieldLink RX2 34 "DecoyHouse$Watch" "date" "I") (by decide +kernel)) (fun _ h9 => h9) rfl dX2_today_1 ?_
  exact hz We () _ _ _ _ dX2_today_4 hw hP hD hS

def wp_X2_bears  (Wb : Int32) (post : Int32 → Prop) : Prop :=
  post Wb

theorem iX2_bears_X2 : ∀ w ∈ wsX20, w ∈ wsX2_bears := by decide +kernel
set_option maxHeartbeats 4000000 in
set_option maxRecDepth 100000 in
theorem c_X2_bears (l : Launch) (D : va_G) (ad : Nat → Nat) (ck : Nat → ClassId) (sz : Nat) (Wt : Nat → Int32) (Wa : Nat → Int32) (Wk : Nat → Int32) (Wd : Int32) (Wn : Int32) (We : Int32) (Wb : Int32)  (post : Int32 → Prop) (hw : wp_X2_bears Wb post) : Met l yX2_bears wsX2_bears { frames := 0, cells := 0, slots := 0, locals := 0 } (va_Pc [.ref (ad 12)] (gq_pre D (tyW ck) (wdW ad ck Wt Wa Wk Wd Wn We Wb) sz)) (va_Qi (fun (r : Int32) (_ : Unit) => post r ) (gq_at D (va_A (wdW ad ck Wt Wa Wk Wd Wn We Wb) sz) (fun (_ : Unit) => (wdW ad ck Wt Wa Wk Wd Wn We Wb))) (va_A (wdW ad ck Wt Wa Wk Wd Wn We Wb) sz)) 0 0 (va_A (wdW ad ck Wt Wa Wk Wd Wn We Wb) sz) := by
  refine gq_meti (cc := cX2_bears) (maxL := 1) (lv := [(0, .ref (ad 12))]) (by decide) rfl (Nat.le_of_ble_eq_true rfl) rfl ?_
  intro p e s m below meth c A Q ls H locs hx hb hml hown hts hnw hA hK hP hD hS hl hz
  refine lv_aload_n hx hb dX2_bears_0 rfl (lv_at hl 0 rfl) ?_
  refine va_get (D := D) (ci := 2) (v := .int Wb) (C := RX2) (T := TX2) (N := 7) hx hb hts iX2_bears_X2 hown hK hP 0 rfl rfl 6 (by decide) (hts (.fieldLink RX2 37 "DecoyHouse$Watch" "bearing" "I") (by decide +kernel)) (fun _ h9 => h9) rfl dX2_bears_1 ?_
  exact hz Wb () _ _ _ _ dX2_bears_4 hw hP hD hS

def wp_X2_setBears (p1 : Int32) (Wb : Int32) (post : Int32 → Prop) : Prop :=
  post p1

theorem iX2_setBears_X2 : ∀ w ∈ wsX20, w ∈ wsX2_setBears := by decide +kernel
set_option maxHeartbeats 4000000 in
set_option maxRecDepth 100000 in
theorem c_X2_setBears (l : Launch) (D : va_G) (ad : Nat → Nat) (ck : Nat → ClassId) (sz : Nat) (Wt : Nat → Int32) (Wa : Nat → Int32) (Wk : Nat → Int32) (Wd : Int32) (Wn : Int32) (We : Int32) (Wb : Int32) (p1 : Int32) (post : Int32 → Prop) (hw : wp_X2_setBears p1 Wb post) : Met l yX2_setBears wsX2_setBears { frames := 0, cells := 0, slots := 0, locals := 0 } (va_Pc [.ref (ad 12), .int p1] (gq_pre D (tyW ck) (wdW ad ck Wt Wa Wk Wd Wn We Wb) sz)) (va_Qv (fun (u : Int32) => post u) (gq_at D (va_A (wdW ad ck Wt Wa Wk Wd Wn We Wb) sz) (fun (u : Int32) => (wdW ad ck Wt Wa Wk Wd Wn We u))) (va_A (wdW ad ck Wt Wa Wk Wd Wn We Wb) sz)) 0 0 (va_A (wdW ad ck Wt Wa Wk Wd Wn We Wb) sz) := by
  refine gq_metv (cc := cX2_setBears) (maxL := 2) (lv := [(0, .ref (ad 12)), (1, .int p1)]) (by decide) rfl (Nat.le_of_ble_eq_true rfl) rfl ?_
  intro p e s m below meth c A Q ls H locs hx hb hml hown hts hnw hA hK hP hD hS hl hz
  refine lv_aload_n hx hb dX2_setBears_0 rfl (lv_at hl 0 rfl) ?_
  refine lv_iload_n hx hb dX2_setBears_1 rfl (lv_at hl 1 rfl) ?_
  refine va_put (D := D) (ci := 2) (v := .int p1) (ty := .int) (C := RX2) (T := TX2) (N := 7) hx hb hts iX2_setBears_X2 tyX2 tyX2_ok nmX2 hown hK hP hD hS 0 rfl rfl 6 (by decide) (hts (.fieldLink RX2 37 "DecoyHouse$Watch" "bearing" "I") (by decide +kernel)) (fun _ h9 => h9) rfl (by decide +kernel) rfl rfl (Nat.le_of_ble_eq_true rfl) dX2_setBears_2 (fun H locs hP hD hS => ?_)
  have hP : va_P D vwCl (wdW ad ck Wt Wa Wk Wd Wn We p1) H := hP
  have hD : va_D A (wdW ad ck Wt Wa Wk Wd Wn We p1) := hD
  exact hz p1 _ _ _ _ dX2_setBears_5 hw hP hD hS

def wl_X2_knownSet_4 (Wk : Nat → Int32) (We : Int32)   (post : Int32 → Prop) : Nat → Int32 → Int32 → Prop
  | 0, _, _ => False
  | n4 + 1, x1, x2 => (if 9 ≤ x2 then post x1 else vp_in x2 9 ∧ (if (Wk (x2).toNatClampNeg) ≤ We then gq_nm (x2 + 1) (fun v5 : Int32 => wl_X2_knownSet_4 Wk We post n4 x1 v5) else wp_X4_setOf x2 (fun (r6 : Int32) => gq_nm (x1 ||| r6) (fun v7 : Int32 => gq_nm (x2 + 1) (fun v8 : Int32 => wl_X2_knownSet_4 Wk We post n4 v7 v8)))))

def wp_X2_knownSet  (Wk : Nat → Int32) (We : Int32) (post : Int32 → Prop) : Prop :=
  ∃ k4, wl_X2_knownSet_4 Wk We post k4 0 0

theorem iX2_knownSet_X2 : ∀ w ∈ wsX20, w ∈ wsX2_knownSet := by decide +kernel
set_option maxHeartbeats 4000000 in
set_option maxRecDepth 100000 in
theorem c_X2_knownSet (l : Launch) (D : va_G) (ad : Nat → Nat) (ck : Nat → ClassId) (sz : Nat) (Wt : Nat → Int32) (Wa : Nat → Int32) (Wk : Nat → Int32) (Wd : Int32) (Wn : Int32) (We : Int32) (Wb : Int32)  (post : Int32 → Prop) (hw : wp_X2_knownSet Wk We post) : Met l yX2_knownSet wsX2_knownSet { frames := 1, cells := 0, slots := 0, locals := 20 } (va_Pc [.ref (ad 12)] (gq_pre D (tyW ck) (wdW ad ck Wt Wa Wk Wd Wn We Wb) sz)) (va_Qi (fun (r : Int32) (_ : Unit) => post r ) (gq_at D (va_A (wdW ad ck Wt Wa Wk Wd Wn We Wb) sz) (fun (_ : Unit) => (wdW ad ck Wt Wa Wk Wd Wn We Wb))) (va_A (wdW ad ck Wt Wa Wk Wd Wn We Wb) sz)) 0 0 (va_A (wdW ad ck Wt Wa Wk Wd Wn We Wb) sz) := by
  refine gq_meti (cc := cX2_knownSet) (maxL := 3) (lv := [(0, .ref (ad 12))]) (by decide) rfl (Nat.le_of_ble_eq_true rfl) rfl ?_
  intro p e s m below meth c A Q ls H locs hx hb hml hown hts hnw hA hK hP hD hS hl hz
  refine lv_iconst (v := 0) hx hb dX2_knownSet_0 (by decide) ?_
  refine lv_istore_n (lv' := [(1, .int 0), (0, .ref (ad 12))]) hx hb dX2_knownSet_1 rfl hl (by decide) rfl (fun ls hl => ?_)
  refine lv_iconst (v := 0) hx hb dX2_knownSet_2 (by decide) ?_
  refine lv_istore_n (lv' := [(2, .int 0), (1, .int 0), (0, .ref (ad 12))]) hx hb dX2_knownSet_3 rfl hl (by decide) rfl (fun ls hl => ?_)
  have hL4 : ∀ (n : Nat) (x1 : Int32) (x2 : Int32) (H : Heap) (locs : List Loc), wl_X2_knownSet_4 Wk We post n x1 x2 → va_P D vwCl (wdW ad ck Wt Wa Wk Wd Wn We Wb) H → va_D A (wdW ad ck Wt Wa Wk Wd Wn We Wb) → va_S A s.heap H locs → ∀ ls : Array Slot, lv_has ls 3 [(0, .ref (ad 12)), (1, .int x1), (2, .int x2)] → W p l e { frames := 1, cells := 0, slots := 0, locals := 20 } s m ([.ref (ad 12)] : List Value).toArray below meth c H locs 0 0 Q (F0 m 4 ls []) := by
    intro n
    induction n with
    | zero =>
      intro x1 x2 H locs hw
      exact hw.elim
    | succ n ih =>
      intro x1 x2 H locs hw hP hD hS ls hl
      refine lv_iload_n hx hb dX2_knownSet_4 rfl (lv_at hl 2 rfl) ?_
      refine lv_bipush (v := 9) hx hb dX2_knownSet_5 (by decide) ?_
      refine lv_icmp_ge (tgt := 36) hx hb dX2_knownSet_7 (by decide) (fun c3 => ?_) (fun c3 => ?_)
      · have hw := gq_t c3 hw
        refine lv_iload_n hx hb dX2_knownSet_36 rfl (lv_at hl 1 rfl) ?_
        exact hz x1 () _ _ _ _ dX2_knownSet_37 hw hP hD hS
      · have hw := gq_f c3 hw
        refine lv_aload_n hx hb dX2_knownSet_10 rfl (lv_at hl 0 rfl) ?_
        refine va_get (D := D) (ci := 2) (v := .int We) (C := RX2) (T := TX2) (N := 7) hx hb hts iX2_knownSet_X2 hown hK hP 0 rfl rfl 5 (by decide) (hts (.fieldLink RX2 34 "DecoyHouse$Watch" "date" "I") (by decide +kernel)) (fun _ h9 => h9) rfl dX2_knownSet_11 ?_
        refine lv_aload_n hx hb dX2_knownSet_14 rfl (lv_at hl 0 rfl) ?_
        refine va_get (D := D) (ci := 2) (v := .ref (ad 15)) (C := RX2) (T := TX2) (N := 7) hx hb hts iX2_knownSet_X2 hown hK hP 0 rfl rfl 2 (by decide) (hts (.fieldLink RX2 18 "DecoyHouse$Watch" "knownUntil" "[I") (by decide +kernel)) (fun _ h9 => h9) rfl dX2_knownSet_15 ?_
        refine lv_iload_n hx hb dX2_knownSet_18 rfl (lv_at hl 2 rfl) ?_
        refine va_iald hx hb hK hP 3 2 rfl rfl hw.1 dX2_knownSet_19 ?_
        have hw := hw.2
        refine lv_icmp_ge (tgt := 30) hx hb dX2_knownSet_20 (by decide) (fun c4 => ?_) (fun c4 => ?_)
        · have hw := gq_t c4 hw
          obtain ⟨v5, ev5⟩ : ∃ y : Int32, y = x2 + 1 := ⟨_, rfl⟩
          have hw := gq_at1 hw ev5
          refine lv_iinc (v := v5) (lv' := [(2, .int v5), (0, .ref (ad 12)), (1, .int x1)]) hx hb dX2_knownSet_30 hl (k := 2) rfl (by rw [ev5]; rfl) (by decide) rfl (fun ls hl => ?_)
          refine lv_goto (tgt := 4) hx hb dX2_knownSet_33 (by decide) ?_
          exact ih x1 v5 _ _ hw hP hD hS ls (lv_sub hl [1, 2, 0] rfl)
        · have hw := gq_f c4 hw
          refine lv_iload_n hx hb dX2_knownSet_23 rfl (lv_at hl 1 rfl) ?_
          refine lv_iload_n hx hb dX2_knownSet_24 rfl (lv_at hl 2 rfl) ?_
          refine gq_calli (wsN := fun _ => (wdW ad ck Wt Wa Wk Wd Wn We Wb)) (va_runSN (As := [.int x2]) (rest := [.int x1]) ⟨hx, hb, hml, hown, hts⟩ (c_X4_setOf l D H.size x2 _ hw) ⟨va_cnB 1 hts gX2_knownSet_X4_setOf_n40 rfl rfl rfl (hnw _ (List.mem_of_getElem? (i := 7) rfl)) (hts (.initialized RX4) (by decide +kernel)) (by decide +kernel) ⟨Nat.le_of_ble_eq_true rfl, Nat.le_of_ble_eq_true rfl⟩, hts (.static yX4_setOf) (by decide +kernel), trivial⟩ (gq_preS hK [] rfl hP hD [] rfl rfl hnw) rfl rfl hl.1 rfl (lv_room (Nat.le_of_ble_eq_true rfl)) dX2_knownSet_25 ⟨Nat.zero_le _, Nat.zero_le _⟩) hP hD hS hA [] [0, 1, 2, 3] rfl rfl rfl (by decide) [0, 1, 2, 3] rfl (fun _ => rfl) (fun r6 _ H locs hw hP hD hS => ?_)
          refine lv_ior hx hb dX2_knownSet_28 ?_
          refine lv_topi (fun v7 ev7 => ?_)
          have hw := gq_at1 hw ev7
          refine lv_istore_n (lv' := [(1, .int v7), (0, .ref (ad 12)), (2, .int x2)]) hx hb dX2_knownSet_29 rfl hl (by decide) rfl (fun ls hl => ?_)
          obtain ⟨v8, ev8⟩ : ∃ y : Int32, y = x2 + 1 := ⟨_, rfl⟩
          have hw := gq_at1 hw ev8
          refine lv_iinc (v := v8) (lv' := [(2, .int v8), (1, .int v7), (0, .ref (ad 12))]) hx hb dX2_knownSet_30 hl (k := 2) rfl (by rw [ev8]; rfl) (by decide) rfl (fun ls hl => ?_)
          refine lv_goto (tgt := 4) hx hb dX2_knownSet_33 (by decide) ?_
          exact ih v7 v8 _ _ hw hP hD hS ls (lv_sub hl [2, 1, 0] rfl)
  obtain ⟨n, hw⟩ := hw
  exact hL4 n 0 0 _ _ hw hP hD hS ls (lv_sub hl [2, 1, 0] rfl)

def wp_X2_talesOf (p1 : Int32) (Wa : Nat → Int32) (post : Int32 → Prop) : Prop :=
  (if p1 < 0 then post 0 else (if 9 ≤ p1 then post 0 else vp_in p1 9 ∧ post (Wa (p1).toNatClampNeg)))

theorem iX2_talesOf_X2 : ∀ w ∈ wsX20, w ∈ wsX2_talesOf := by decide +kernel
set_option maxHeartbeats 4000000 in
set_option maxRecDepth 100000 in
theorem c_X2_talesOf (l : Launch) (D : va_G) (ad : Nat → Nat) (ck : Nat → ClassId) (sz : Nat) (Wt : Nat → Int32) (Wa : Nat → Int32) (Wk : Nat → Int32) (Wd : Int32) (Wn : Int32) (We : Int32) (Wb : Int32) (p1 : Int32) (post : Int32 → Prop) (hw : wp_X2_talesOf p1 Wa post) : Met l yX2_talesOf wsX2_talesOf { frames := 0, cells := 0, slots := 0, locals := 0 } (va_Pc [.ref (ad 12), .int p1] (gq_pre D (tyW ck) (wdW ad ck Wt Wa Wk Wd Wn We Wb) sz)) (va_Qi (fun (r : Int32) (_ : Unit) => post r ) (gq_at D (va_A (wdW ad ck Wt Wa Wk Wd Wn We Wb) sz) (fun (_ : Unit) => (wdW ad ck Wt Wa Wk Wd Wn We Wb))) (va_A (wdW ad ck Wt Wa Wk Wd Wn We Wb) sz)) 0 0 (va_A (wdW ad ck Wt Wa Wk Wd Wn We Wb) sz) := by
  refine gq_meti (cc := cX2_talesOf) (maxL := 2) (lv := [(0, .ref (ad 12)), (1, .int p1)]) (by decide) rfl (Nat.le_of_ble_eq_true rfl) rfl ?_
  intro p e s m below meth c A Q ls H locs hx hb hml hown hts hnw hA hK hP hD hS hl hz
  refine lv_iload_n hx hb dX2_talesOf_0 rfl (lv_at hl 1 rfl) ?_
  refine lv_if_lt (tgt := 19) hx hb dX2_talesOf_1 (by decide) (fun c1 => ?_) (fun c1 => ?_)
  · have hw := gq_t c1 hw
    refine lv_iconst (v := 0) hx hb dX2_talesOf_19 (by decide) ?_
    exact hz 0 () _ _ _ _ dX2_talesOf_20 hw hP hD hS
  · have hw := gq_f c1 hw
    refine lv_iload_n hx hb dX2_talesOf_4 rfl (lv_at hl 1 rfl) ?_
    refine lv_bipush (v := 9) hx hb dX2_talesOf_5 (by decide) ?_
    refine lv_icmp_ge (tgt := 19) hx hb dX2_talesOf_7 (by decide) (fun c2 => ?_) (fun c2 => ?_)
    · have hw := gq_t c2 hw
      refine lv_iconst (v := 0) hx hb dX2_talesOf_19 (by decide) ?_
      exact hz 0 () _ _ _ _ dX2_talesOf_20 hw hP hD hS
    · have hw := gq_f c2 hw
      refine lv_aload_n hx hb dX2_talesOf_10 rfl (lv_at hl 0 rfl) ?_
      refine va_get (D := D) (ci := 2) (v := .ref (ad 14)) (C := RX2) (T := TX2) (N := 7) hx hb hts iX2_talesOf_X2 hown hK hP 0 rfl rfl 1 (by decide) (hts (.fieldLink RX2 15 "DecoyHouse$Watch" "talesAt" "[I") (by decide +kernel)) (fun _ h9 => h9) rfl dX2_talesOf_11 ?_
      refine lv_iload_n hx hb dX2_talesOf_14 rfl (lv_at hl 1 rfl) ?_
      refine va_iald hx hb hK hP 2 1 rfl rfl hw.1 dX2_talesOf_15 ?_
      have hw := hw.2
      refine lv_goto (tgt := 20) hx hb dX2_talesOf_16 (by decide) ?_
      exact hz (Wa (p1).toNatClampNeg) () _ _ _ _ dX2_talesOf_20 hw hP hD hS

def wp_X2_passDay  (We : Int32) (post : Int32 → Int32 → Prop) : Prop :=
  (if We < 10000 then gq_nm (We + 1) (fun v2 : Int32 => post v2 v2) else post (-1) We)

theorem iX2_passDay_X2 : ∀ w ∈ wsX20, w ∈ wsX2_passDay := by decide +kernel
set_option maxHeartbeats 4000000 in
set_option maxRecDepth 100000 in
theorem c_X2_passDay (l : Launch) (D : va_G) (ad : Nat → Nat) (ck : Nat → ClassId) (sz : Nat) (Wt : Nat → Int32) (Wa : Nat → Int32) (Wk : Nat → Int32) (Wd : Int32) (Wn : Int32) (We : Int32) (Wb : Int32)  (post : Int32 → Int32 → Prop) (hw : wp_X2_passDay We post) : Met l yX2_passDay wsX2_passDay { frames := 0, cells := 0, slots := 0, locals := 0 } (va_Pc [.ref (ad 12)] (gq_pre D (tyW ck) (wdW ad ck Wt Wa Wk Wd Wn We Wb) sz)) (va_Qi (fun (r : Int32) (u : Int32) => post r u) (gq_at D (va_A (wdW ad ck Wt Wa Wk Wd Wn We Wb) sz) (fun (u : Int32) => (wdW ad ck Wt Wa Wk Wd Wn u Wb))) (va_A (wdW ad ck Wt Wa Wk Wd Wn We Wb) sz)) 0 0 (va_A (wdW ad ck Wt Wa Wk Wd Wn We Wb) sz) := by
  refine gq_meti (cc := cX2_passDay) (maxL := 1) (lv := [(0, .ref (ad 12))]) (by decide) rfl (Nat.le_of_ble_eq_true rfl) rfl ?_
  intro p e s m below meth c A Q ls H locs hx hb hml hown hts hnw hA hK hP hD hS hl hz
  refine lv_aload_n hx hb dX2_passDay_0 rfl (lv_at hl 0 rfl) ?_
  refine va_get (D := D) (ci := 2) (v := .int We) (C := RX2) (T := TX2) (N := 7) hx hb hts iX2_passDay_X2 hown hK hP 0 rfl rfl 5 (by decide) (hts (.fieldLink RX2 34 "DecoyHouse$Watch" "date" "I") (by decide +kernel)) (fun _ h9 => h9) rfl dX2_passDay_1 ?_
  refine lv_sipush (v := 10000) hx hb dX2_passDay_4 (by decide) ?_
  refine lv_icmp_lt (tgt := 12) hx hb dX2_passDay_7 (by decide) (fun c1 => ?_) (fun c1 => ?_)
  · have hw := gq_t c1 hw
    refine lv_aload_n hx hb dX2_passDay_12 rfl (lv_at hl 0 rfl) ?_
    refine lv_dup hx hb dX2_passDay_13 rfl ?_
    refine va_get (D := D) (ci := 2) (v := .int We) (C := RX2) (T := TX2) (N := 7) hx hb hts iX2_passDay_X2 hown hK hP 0 rfl rfl 5 (by decide) (hts (.fieldLink RX2 34 "DecoyHouse$Watch" "date" "I") (by decide +kernel)) (fun _ h9 => h9) rfl dX2_passDay_14 ?_
    refine lv_iconst (v := 1) hx hb dX2_passDay_17 (by decide) ?_
    refine lv_iadd hx hb dX2_passDay_18 ?_
    refine lv_topi (fun v2 ev2 => ?_)
    have hw := gq_at1 hw ev2
    refine va_put (D := D) (ci := 2) (v := .int v2) (ty := .int) (C := RX2) (T := TX2) (N := 7) hx hb hts iX2_passDay_X2 tyX2 tyX2_ok nmX2 hown hK hP hD hS 0 rfl rfl 5 (by decide) (hts (.fieldLink RX2 34 "DecoyHouse$Watch" "date" "I") (by decide +kernel)) (fun _ h9 => h9) rfl (by decide +kernel) rfl rfl (Nat.le_of_ble_eq_true rfl) dX2_passDay_19 (fun H locs hP hD hS => ?_)
    have hP : va_P D vwCl (wdW ad ck Wt Wa Wk Wd Wn v2 Wb) H := hP
    have hD : va_D A (wdW ad ck Wt Wa Wk Wd Wn v2 Wb) := hD
    refine lv_aload_n hx hb dX2_passDay_22 rfl (lv_at hl 0 rfl) ?_
    refine va_get (D := D) (ci := 2) (v := .int v2) (C := RX2) (T := TX2) (N := 7) hx hb hts iX2_passDay_X2 hown hK hP 0 rfl rfl 5 (by decide) (hts (.fieldLink RX2 34 "DecoyHouse$Watch" "date" "I") (by decide +kernel)) (fun _ h9 => h9) rfl dX2_passDay_23 ?_
    exact hz v2 v2 _ _ _ _ dX2_passDay_26 hw hP hD hS
  · have hw := gq_f c1 hw
    refine lv_iconst (v := (-1)) hx hb dX2_passDay_10 (by decide) ?_
    exact hz (-1) We _ _ _ _ dX2_passDay_11 hw hP hD hS

def wl_X2_layDecoys_2 (p1 : Int32) (Wd : Int32)   (post : (Nat → Int32) → Int32 → Int32 → Prop) : Nat → Int32 → (Nat → Int32) → Prop
  | 0, _, _ => False
  | n2 + 1, x1, Wa_2 => (if 9 ≤ x1 then post Wa_2 p1 0 else wp_X4_has (p1 &&& Wd) x1 (fun (r4 : Int32) => (if r4 = 0 then vp_in x1 9 ∧ gq_nm (upd Wa_2 (x1).toNatClampNeg 0) (fun Wa_7 : Nat → Int32 => gq_nm (x1 + 1) (fun v8 : Int32 => wl_X2_layDecoys_2 p1 Wd post n2 v8 Wa_7)) else gq_nm (x1 + 1) (fun v6 : Int32 => wl_X2_layDecoys_2 p1 Wd post n2 v6 Wa_2))))

def wp_X2_layDecoys (p1 : Int32) (Wa : Nat → Int32) (Wd : Int32) (Wn : Int32) (post : (Nat → Int32) → Int32 → Int32 → Prop) : Prop :=
  ∃ k2, wl_X2_layDecoys_2 p1 Wd post k2 0 Wa

theorem iX2_layDecoys_X2 : ∀ w ∈ wsX20, w ∈ wsX2_layDecoys := by decide +kernel
set_option maxHeartbeats 4000000 in
set_option maxRecDepth 100000 in
theorem c_X2_layDecoys (l : Launch) (D : va_G) (ad : Nat → Nat) (ck : Nat → ClassId) (sz : Nat) (Wt : Nat → Int32) (Wa : Nat → Int32) (Wk : Nat → Int32) (Wd : Int32) (Wn : Int32) (We : Int32) (Wb : Int32) (p1 : Int32) (post : (Nat → Int32) → Int32 → Int32 → Prop) (hw : wp_X2_layDecoys p1 Wa Wd Wn post) : Met l yX2_layDecoys wsX2_layDecoys { frames := 1, cells := 0, slots := 0, locals := 21 } (va_Pc [.ref (ad 12), .int p1] (gq_pre D (tyW ck) (wdW ad ck Wt Wa Wk Wd Wn We Wb) sz)) (va_Qv (fun (u : (Nat → Int32) × Int32 × Int32) => post u.1 u.2.1 u.2.2) (gq_at D (va_A (wdW ad ck Wt Wa Wk Wd Wn We Wb) sz) (fun (u : (Nat → Int32) × Int32 × Int32) => (wdW ad ck Wt u.1 Wk u.2.1 u.2.2 We Wb))) (va_A (wdW ad ck Wt Wa Wk Wd Wn We Wb) sz)) 0 0 (va_A (wdW ad ck Wt Wa Wk Wd Wn We Wb) sz) := by
  refine gq_metv (cc := cX2_layDecoys) (maxL := 3) (lv := [(0, .ref (ad 12)), (1, .int p1)]) (by decide) rfl (Nat.le_of_ble_eq_true rfl) rfl ?_
  intro p e s m below meth c A Q ls H locs hx hb hml hown hts hnw hA hK hP hD hS hl hz
  refine lv_iconst (v := 0) hx hb dX2_layDecoys_0 (by decide) ?_
  refine lv_istore_n (lv' := [(2, .int 0), (0, .ref (ad 12)), (1, .int p1)]) hx hb dX2_layDecoys_1 rfl hl (by decide) rfl (fun ls hl => ?_)
  have hL2 : ∀ (n : Nat) (x1 : Int32) (Wa_2 : Nat → Int32) (H : Heap) (locs : List Loc), wl_X2_layDecoys_2 p1 Wd post n x1 Wa_2 → va_P D vwCl (wdW ad ck Wt Wa_2 Wk Wd Wn We Wb) H → va_D A (wdW ad ck Wt Wa_2 Wk Wd Wn We Wb) → va_S A s.heap H locs → ∀ ls : Array Slot, lv_has ls 3 [(0, .ref (ad 12)), (1, .int p1), (2, .int x1)] → W p l e { frames := 1, cells := 0, slots := 0, locals := 21 } s m ([.ref (ad 12), .int p1] : List Value).toArray below meth c H locs 0 0 Q (F0 m 2 ls []) := by
    intro n
    induction n with
    | zero =>
      intro x1 Wa_2 H locs hw
      exact hw.elim
    | succ n ih =>
      intro x1 Wa_2 H locs hw hP hD hS ls hl
      refine lv_iload_n hx hb dX2_layDecoys_2 rfl (lv_at hl 2 rfl) ?_
      refine lv_bipush (v := 9) hx hb dX2_layDecoys_3 (by decide) ?_
      refine lv_icmp_ge (tgt := 34) hx hb dX2_layDecoys_5 (by decide) (fun c3 => ?_) (fun c3 => ?_)
      · have hw := gq_t c3 hw
        refine lv_aload_n hx hb dX2_layDecoys_34 rfl (lv_at hl 0 rfl) ?_
        refine lv_iload_n hx hb dX2_layDecoys_35 rfl (lv_at hl 1 rfl) ?_
        refine va_put (D := D) (ci := 2) (v := .int p1) (ty := .int) (C := RX2) (T := TX2) (N := 7) hx hb hts iX2_layDecoys_X2 tyX2 tyX2_ok nmX2 hown hK hP hD hS 0 rfl rfl 3 (by decide) (hts (.fieldLink RX2 27 "DecoyHouse$Watch" "decoys" "I") (by decide +kernel)) (fun _ h9 => h9) rfl (by decide +kernel) rfl rfl (Nat.le_of_ble_eq_true rfl) dX2_layDecoys_36 (fun H locs hP hD hS => ?_)
        have hP : va_P D vwCl (wdW ad ck Wt Wa_2 Wk p1 Wn We Wb) H := hP
        have hD : va_D A (wdW ad ck Wt Wa_2 Wk p1 Wn We Wb) := hD
        refine lv_aload_n hx hb dX2_layDecoys_39 rfl (lv_at hl 0 rfl) ?_
        refine lv_iconst (v := 0) hx hb dX2_layDecoys_40 (by decide) ?_
        refine va_put (D := D) (ci := 2) (v := .int 0) (ty := .int) (C := RX2) (T := TX2) (N := 7) hx hb hts iX2_layDecoys_X2 tyX2 tyX2_ok nmX2 hown hK hP hD hS 0 rfl rfl 4 (by decide) (hts (.fieldLink RX2 31 "DecoyHouse$Watch" "touches" "I") (by decide +kernel)) (fun _ h9 => h9) rfl (by decide +kernel) rfl rfl (Nat.le_of_ble_eq_true rfl) dX2_layDecoys_41 (fun H locs hP hD hS => ?_)
        have hP : va_P D vwCl (wdW ad ck Wt Wa_2 Wk p1 0 We Wb) H := hP
        have hD : va_D A (wdW ad ck Wt Wa_2 Wk p1 0 We Wb) := hD
        exact hz (Wa_2, p1, 0) _ _ _ _ dX2_layDecoys_44 hw hP hD hS
      · have hw := gq_f c3 hw
        refine lv_iload_n hx hb dX2_layDecoys_8 rfl (lv_at hl 1 rfl) ?_
        refine lv_aload_n hx hb dX2_layDecoys_9 rfl (lv_at hl 0 rfl) ?_
        refine va_get (D := D) (ci := 2) (v := .int Wd) (C := RX2) (T := TX2) (N := 7) hx hb hts iX2_layDecoys_X2 hown hK hP 0 rfl rfl 3 (by decide) (hts (.fieldLink RX2 27 "DecoyHouse$Watch" "decoys" "I") (by decide +kernel)) (fun _ h9 => h9) rfl dX2_layDecoys_10 ?_
        refine lv_iand hx hb dX2_layDecoys_13 ?_
        refine lv_iload_n hx hb dX2_layDecoys_14 rfl (lv_at hl 2 rfl) ?_
        refine gq_calli (wsN := fun _ => (wdW ad ck Wt Wa_2 Wk Wd Wn We Wb)) (va_runSN (As := [.int (p1 &&& Wd), .int x1]) (rest := []) ⟨hx, hb, hml, hown, hts⟩ (c_X4_has l D H.size (p1 &&& Wd) x1 _ hw) ⟨va_cnB 2 hts gX2_layDecoys_X4_has_n44 rfl rfl rfl (hnw _ (List.mem_of_getElem? (i := 12) rfl)) (hts (.initialized RX4) (by decide +kernel)) (by decide +kernel) ⟨Nat.le_of_ble_eq_true rfl, Nat.le_of_ble_eq_true rfl⟩, hts (.static yX4_has) (by decide +kernel), trivial⟩ (gq_preS hK [] rfl hP hD [] rfl rfl hnw) rfl rfl hl.1 rfl (lv_room (Nat.le_of_ble_eq_true rfl)) dX2_layDecoys_15 ⟨Nat.zero_le _, Nat.zero_le _⟩) hP hD hS hA [] [0, 1, 2, 3] rfl rfl rfl (by decide) [0, 1, 2, 3] rfl (fun _ => rfl) (fun r4 _ H locs hw hP hD hS => ?_)
        refine lv_if_ne (tgt := 28) hx hb dX2_layDecoys_18 (by decide) (fun c5 => ?_) (fun c5 => ?_)
        · have hw := gq_f c5 hw
          obtain ⟨v6, ev6⟩ : ∃ y : Int32, y = x1 + 1 := ⟨_, rfl⟩
          have hw := gq_at1 hw ev6
          refine lv_iinc (v := v6) (lv' := [(2, .int v6), (0, .ref (ad 12)), (1, .int p1)]) hx hb dX2_layDecoys_28 hl (k := 2) rfl (by rw [ev6]; rfl) (by decide) rfl (fun ls hl => ?_)
          refine lv_goto (tgt := 2) hx hb dX2_layDecoys_31 (by decide) ?_
          exact ih v6 Wa_2 _ _ hw hP hD hS ls (lv_sub hl [1, 2, 0] rfl)
        · have hw := gq_t c5 hw
          refine lv_aload_n hx hb dX2_layDecoys_21 rfl (lv_at hl 0 rfl) ?_
          refine va_get (D := D) (ci := 2) (v := .ref (ad 14)) (C := RX2) (T := TX2) (N := 7) hx hb hts iX2_layDecoys_X2 hown hK hP 0 rfl rfl 1 (by decide) (hts (.fieldLink RX2 15 "DecoyHouse$Watch" "talesAt" "[I") (by decide +kernel)) (fun _ h9 => h9) rfl dX2_layDecoys_22 ?_
          refine lv_iload_n hx hb dX2_layDecoys_25 rfl (lv_at hl 2 rfl) ?_
          refine lv_iconst (v := 0) hx hb dX2_layDecoys_26 (by decide) ?_
          refine va_iast hx hb hK hP hD hS 2 1 rfl rfl hw.1 dX2_layDecoys_27 (fun H locs hP hD hS => ?_)
          obtain ⟨Wa_7, eWa_7⟩ : ∃ y : Nat → Int32, y = upd Wa_2 (x1).toNatClampNeg 0 := ⟨_, rfl⟩
          have hw := gq_at1 hw.2 eWa_7
          have hP : va_P D vwCl (wdW ad ck Wt Wa_7 Wk Wd Wn We Wb) H := by rw [eWa_7]; exact hP
          have hD : va_D A (wdW ad ck Wt Wa_7 Wk Wd Wn We Wb) := by rw [eWa_7]; exact hD
          obtain ⟨v8, ev8⟩ : ∃ y : Int32, y = x1 + 1 := ⟨_, rfl⟩
          have hw := gq_at1 hw ev8
          refine lv_iinc (v := v8) (lv' := [(2, .int v8), (0, .ref (ad 12)), (1, .int p1)]) hx hb dX2_layDecoys_28 hl (k := 2) rfl (by rw [ev8]; rfl) (by decide) rfl (fun ls hl => ?_)
          refine lv_goto (tgt := 2) hx hb dX2_layDecoys_31 (by decide) ?_
          exact ih v8 Wa_7 _ _ hw hP hD hS ls (lv_sub hl [1, 2, 0] rfl)
  obtain ⟨n, hw⟩ := hw
  exact hL2 n 0 Wa _ _ hw hP hD hS ls (lv_sub hl [1, 2, 0] rfl)

def wl_X2_wasTouched_2 (p1 : Int32) (Wt : Nat → Int32) (Wn : Int32)   (post : Int32 → Prop) : Nat → Int32 → Prop
  | 0, _ => False
  | n2 + 1, x1 => (if Wn ≤ x1 then post 0 else (if 6 ≤ x1 then post 0 else vp_in x1 6 ∧ (if (Wt (x1).toNatClampNeg) = p1 then post 1 else gq_nm (x1 + 1) (fun v5 : Int32 => wl_X2_wasTouched_2 p1 Wt Wn post n2 v5))))

def wp_X2_wasTouched (p1 : Int32) (Wt : Nat → Int32) (Wn : Int32) (post : Int32 → Prop) : Prop :=
  ∃ k2, wl_X2_wasTouched_2 p1 Wt Wn post k2 0

theorem iX2_wasTouched_X2 : ∀ w ∈ wsX20, w ∈ wsX2_wasTouched := by decide +kernel
set_option maxHeartbeats 4000000 in
set_option maxRecDepth 100000 in
theorem c_X2_wasTouched (l : Launch) (D : va_G) (ad : Nat → Nat) (ck : Nat → ClassId) (sz : Nat) (Wt : Nat → Int32) (Wa : Nat → Int32) (Wk : Nat → Int32) (Wd : Int32) (Wn : Int32) (We : Int32) (Wb : Int32) (p1 : Int32) (post : Int32 → Prop) (hw : wp_X2_wasTouched p1 Wt Wn post) : Met l yX2_wasTouched wsX2_wasTouched { frames := 0, cells := 0, slots := 0, locals := 0 } (va_Pc [.ref (ad 12), .int p1] (gq_pre D (tyW ck) (wdW ad ck Wt Wa Wk Wd Wn We Wb) sz)) (va_Qi (fun (r : Int32) (_ : Unit) => post r ) (gq_at D (va_A (wdW ad ck Wt Wa Wk Wd Wn We Wb) sz) (fun (_ : Unit) => (wdW ad ck Wt Wa Wk Wd Wn We Wb))) (va_A (wdW ad ck Wt Wa Wk Wd Wn We Wb) sz)) 0 0 (va_A (wdW ad ck Wt Wa Wk Wd Wn We Wb) sz) := by
  refine gq_metz (cc := cX2_wasTouched) (maxL := 3) (lv := [(0, .ref (ad 12)), (1, .int p1)]) (by decide) rfl (Nat.le_of_ble_eq_true rfl) rfl ?_
  intro p e s m below meth c A Q ls H locs hx hb hml hown hts hnw hA hK hP hD hS hl hz
  refine lv_iconst (v := 0) hx hb dX2_wasTouched_0 (by decide) ?_
  refine lv_istore_n (lv' := [(2, .int 0), (0, .ref (ad 12)), (1, .int p1)]) hx hb dX2_wasTouched_1 rfl hl (by decide) rfl (fun ls hl => ?_)
  have hL2 : ∀ (n : Nat) (x1 : Int32) (H : Heap) (locs : List Loc), wl_X2_wasTouched_2 p1 Wt Wn post n x1 → va_P D vwCl (wdW ad ck Wt Wa Wk Wd Wn We Wb) H → va_D A (wdW ad ck Wt Wa Wk Wd Wn We Wb) → va_S A s.heap H locs → ∀ ls : Array Slot, lv_has ls 3 [(0, .ref (ad 12)), (1, .int p1), (2, .int x1)] → W p l e { frames := 0, cells := 0, slots := 0, locals := 0 } s m ([.ref (ad 12), .int p1] : List Value).toArray below meth c H locs 0 0 Q (F0 m 2 ls []) := by
    intro n
    induction n with
    | zero =>
      intro x1 H locs hw
      exact hw.elim
    | succ n ih =>
      intro x1 H locs hw hP hD hS ls hl
      refine lv_iload_n hx hb dX2_wasTouched_2 rfl (lv_at hl 2 rfl) ?_
      refine lv_aload_n hx hb dX2_wasTouched_3 rfl (lv_at hl 0 rfl) ?_
      refine va_get (D := D) (ci := 2) (v := .int Wn) (C := RX2) (T := TX2) (N := 7) hx hb hts iX2_wasTouched_X2 hown hK hP 0 rfl rfl 4 (by decide) (hts (.fieldLink RX2 31 "DecoyHouse$Watch" "touches" "I") (by decide +kernel)) (fun _ h9 => h9) rfl dX2_wasTouched_4 ?_
      refine lv_icmp_ge (tgt := 34) hx hb dX2_wasTouched_7 (by decide) (fun c2 => ?_) (fun c2 => ?_)
      · have hw := gq_t c2 hw
        refine lv_iconst (v := 0) hx hb dX2_wasTouched_34 (by decide) ?_
        exact hz 0 () _ _ _ _ dX2_wasTouched_35 gq_zb0 hw hP hD hS
      · have hw := gq_f c2 hw
        refine lv_iload_n hx hb dX2_wasTouched_10 rfl (lv_at hl 2 rfl) ?_
        refine lv_bipush (v := 6) hx hb dX2_wasTouched_11 (by decide) ?_
        refine lv_icmp_ge (tgt := 34) hx hb dX2_wasTouched_13 (by decide) (fun c3 => ?_) (fun c3 => ?_)
        · have hw := gq_t c3 hw
          refine lv_iconst (v := 0) hx hb dX2_wasTouched_34 (by decide) ?_
          exact hz 0 () _ _ _ _ dX2_wasTouched_35 gq_zb0 hw hP hD hS
        · have hw := gq_f c3 hw
          refine lv_aload_n hx hb dX2_wasTouched_16 rfl (lv_at hl 0 rfl) ?_
          refine va_get (D := D) (ci := 2) (v := .ref (ad 13)) (C := RX2) (T := TX2) (N := 7) hx hb hts iX2_wasTouched_X2 hown hK hP 0 rfl rfl 0 (by decide) (hts (.fieldLink RX2 9 "DecoyHouse$Watch" "tale" "[I") (by decide +kernel)) (fun _ h9 => h9) rfl dX2_wasTouched_17 ?_
          refine lv_iload_n hx hb dX2_wasTouched_20 rfl (lv_at hl 2 rfl) ?_
          refine va_iald hx hb hK hP 1 0 rfl rfl hw.1 dX2_wasTouched_21 ?_
          have hw := hw.2
          refine lv_iload_n hx hb dX2_wasTouched_22 rfl (lv_at hl 1 rfl) ?_
          refine lv_icmp_ne (tgt := 28) hx hb dX2_wasTouched_23 (by decide) (fun c4 => ?_) (fun c4 => ?_)
          · have hw := gq_f c4 hw
            obtain ⟨v5, ev5⟩ : ∃ y : Int32, y = x1 + 1 := ⟨_, rfl⟩
            have hw := gq_at1 hw ev5
            refine lv_iinc (v := v5) (lv' := [(2, .int v5), (0, .ref (ad 12)), (1, .int p1)]) hx hb dX2_wasTouched_28 hl (k := 2) rfl (by rw [ev5]; rfl) (by decide) rfl (fun ls hl => ?_)
            refine lv_goto (tgt := 2) hx hb dX2_wasTouched_31 (by decide) ?_
            exact ih v5 _ _ hw hP hD hS ls (lv_sub hl [1, 2, 0] rfl)
          · have hw := gq_t c4 hw
            refine lv_iconst (v := 1) hx hb dX2_wasTouched_26 (by decide) ?_
            exact hz 1 () _ _ _ _ dX2_wasTouched_27 gq_zb1 hw hP hD hS
  obtain ⟨n, hw⟩ := hw
  exact hL2 n 0 _ _ hw hP hD hS ls (lv_sub hl [1, 2, 0] rfl)

def wp_X2_noteTouch (p1 : Int32) (Wt : Nat → Int32) (Wd : Int32) (Wn : Int32) (post : Int32 → (Nat → Int32) → Int32 → Prop) : Prop :=
  wp_X4_has Wd p1 (fun (r1 : Int32) => (if r1 = 0 then post 0 Wt Wn else (if Wn < 0 then post 0 Wt Wn else (if 6 ≤ Wn then post 0 Wt Wn else wp_X2_wasTouched p1 Wt Wn (fun (r5 : Int32) => (if r5 = 0 then vp_in Wn 6 ∧ gq_nm (upd Wt (Wn).toNatClampNeg p1) (fun Wt_7 : Nat → Int32 => gq_nm (Wn + 1) (fun v8 : Int32 => post 1 Wt_7 v8)) else post 0 Wt Wn))))))

theorem iX2_noteTouch_X2 : ∀ w ∈ wsX20, w ∈ wsX2_noteTouch := by decide +kernel
set_option maxHeartbeats 4000000 in
set_option maxRecDepth 100000 in
theorem c_X2_noteTouch (l : Launch) (D : va_G) (ad : Nat → Nat) (ck : Nat → ClassId) (sz : Nat) (Wt : Nat → Int32) (Wa : Nat → Int32) (Wk : Nat → Int32) (Wd : Int32) (Wn : Int32) (We : Int32) (Wb : Int32) (p1 : Int32) (post : Int32 → (Nat → Int32) → Int32 → Prop) (hw : wp_X2_noteTouch p1 Wt Wd Wn post) : Met l yX2_noteTouch wsX2_noteTouch { frames := 1, cells := 0, slots := 0, locals := 22 } (va_Pc [.ref (ad 12), .int p1] (gq_pre D (tyW ck) (wdW ad ck Wt Wa Wk Wd Wn We Wb) sz)) (va_Qi (fun (r : Int32) (u : (Nat → Int32) × Int32) => post r u.1 u.2) (gq_at D (va_A (wdW ad ck Wt Wa Wk Wd Wn We Wb) sz) (fun (u : (Nat → Int32) × Int32) => (wdW ad ck u.1 Wa Wk Wd u.2 We Wb))) (va_A (wdW ad ck Wt Wa Wk Wd Wn We Wb) sz)) 0 0 (va_A (wdW ad ck Wt Wa Wk Wd Wn We Wb) sz) := by
  refine gq_metz (cc := cX2_noteTouch) (maxL := 2) (lv := [(0, .ref (ad 12)), (1, .int p1)]) (by decide) rfl (Nat.le_of_ble_eq_true rfl) rfl ?_
  intro p e s m below meth c A Q ls H locs hx hb hml hown hts hnw hA hK hP hD hS hl hz
  refine lv_aload_n hx hb dX2_noteTouch_0 rfl (lv_at hl 0 rfl) ?_
  refine va_get (D := D) (ci := 2) (v := .int Wd) (C := RX2) (T := TX2) (N := 7) hx hb hts iX2_noteTouch_X2 hown hK hP 0 rfl rfl 3 (by decide) (hts (.fieldLink RX2 27 "DecoyHouse$Watch" "decoys" "I") (by decide +kernel)) (fun _ h9 => h9) rfl dX2_noteTouch_1 ?_
  refine lv_iload_n hx hb dX2_noteTouch_4 rfl (lv_at hl 1 rfl) ?_
  refine gq_calli (wsN := fun _ => (wdW ad ck Wt Wa Wk Wd Wn We Wb)) (va_runSN (As := [.int Wd, .int p1]) (rest := []) ⟨hx, hb, hml, hown, hts⟩ (c_X4_has l D H.size Wd p1 _ hw) ⟨va_cnB 2 hts gX2_noteTouch_X4_has_n44 rfl rfl rfl (hnw _ (List.mem_of_getElem? (i := 12) rfl)) (hts (.initialized RX4) (by decide +kernel)) (by decide +kernel) ⟨Nat.le_of_ble_eq_true rfl, Nat.le_of_ble_eq_true rfl⟩, hts (.static yX4_has) (by decide +kernel), trivial⟩ (gq_preS hK [] rfl hP hD [] rfl rfl hnw) rfl rfl hl.1 rfl (lv_room (Nat.le_of_ble_eq_true rfl)) dX2_noteTouch_5 ⟨Nat.zero_le _, Nat.zero_le _⟩) hP hD hS hA [] [0, 1, 2, 3] rfl rfl rfl (by decide) [0, 1, 2, 3] rfl (fun _ => rfl) (fun r1 _ H locs hw hP hD hS => ?_)
  refine lv_if_eq (tgt := 35) hx hb dX2_noteTouch_8 (by decide) (fun c2 => ?_) (fun c2 => ?_)
  · have hw := gq_t c2 hw
    refine lv_iconst (v := 0) hx hb dX2_noteTouch_35 (by decide) ?_
    exact hz 0 (Wt, Wn) _ _ _ _ dX2_noteTouch_36 gq_zb0 hw hP hD hS
  · have hw := gq_f c2 hw
    refine lv_aload_n hx hb dX2_noteTouch_11 rfl (lv_at hl 0 rfl) ?_
    refine va_get (D := D) (ci := 2) (v := .int Wn) (C := RX2) (T := TX2) (N := 7) hx hb hts iX2_noteTouch_X2 hown hK hP 0 rfl rfl 4 (by decide) (hts (.fieldLink RX2 31 "DecoyHouse$Watch" "touches" "I") (by decide +kernel)) (fun _ h9 => h9) rfl dX2_noteTouch_12 ?_
    refine lv_if_lt (tgt := 35) hx hb dX2_noteTouch_15 (by decide) (fun c3 => ?_) (fun c3 => ?_)
    · have hw := gq_t c3 hw
      refine lv_iconst (v := 0) hx hb dX2_noteTouch_35 (by decide) ?_
      exact hz 0 (Wt, Wn) _ _ _ _ dX2_noteTouch_36 gq_zb0 hw hP hD hS
    · have hw := gq_f c3 hw
      refine lv_aload_n hx hb dX2_noteTouch_18 rfl (lv_at hl 0 rfl) ?_
      refine va_get (D := D) (ci := 2) (v := .int Wn) (C := RX2) (T := TX2) (N := 7) hx hb hts iX2_noteTouch_X2 hown hK hP 0 rfl rfl 4 (by decide) (hts (.fieldLink RX2 31 "DecoyHouse$Watch" "touches" "I") (by decide +kernel)) (fun _ h9 => h9) rfl dX2_noteTouch_19 ?_
      refine lv_bipush (v := 6) hx hb dX2_noteTouch_22 (by decide) ?_
      refine lv_icmp_ge (tgt := 35) hx hb dX2_noteTouch_24 (by decide) (fun c4 => ?_) (fun c4 => ?_)
      · have hw := gq_t c4 hw
        refine lv_iconst (v := 0) hx hb dX2_noteTouch_35 (by decide) ?_
        exact hz 0 (Wt, Wn) _ _ _ _ dX2_noteTouch_36 gq_zb0 hw hP hD hS
      · have hw := gq_f c4 hw
        refine lv_aload_n hx hb dX2_noteTouch_27 rfl (lv_at hl 0 rfl) ?_
        refine lv_iload_n hx hb dX2_noteTouch_28 rfl (lv_at hl 1 rfl) ?_
        refine gq_calli (wsN := fun _ => (wdW ad ck Wt Wa Wk Wd Wn We Wb)) (va_runV (As := [.int p1]) (rest := []) ⟨hx, hb, hml, hown, hts⟩ (c_X2_wasTouched l D ad ck H.size Wt Wa Wk Wd Wn We Wb p1 _ hw) (cwV 1 hts gX2_noteTouch_X2_wasTouched rfl rfl rfl (by decide +kernel) ⟨Nat.le_of_ble_eq_true rfl, Nat.le_of_ble_eq_true rfl⟩) (gq_preV hK [0, 1, 2] rfl hP hD [0, 1, 2, 3] rfl rfl hnw 2 0 rfl rfl) rfl rfl hl.1 rfl (lv_room (Nat.le_of_ble_eq_true rfl)) dX2_noteTouch_29 ⟨Nat.zero_le _, Nat.zero_le _⟩) hP hD hS hA [0, 1, 2, 3] [] rfl rfl rfl (by decide) [0, 1, 2, 3] rfl (fun _ => rfl) (fun r5 _ H locs hw hP hD hS => ?_)
        refine lv_if_eq (tgt := 37) hx hb dX2_noteTouch_32 (by decide) (fun c6 => ?_) (fun c6 => ?_)
        · have hw := gq_t c6 hw
          refine lv_aload_n hx hb dX2_noteTouch_37 rfl (lv_at hl 0 rfl) ?_
          refine va_get (D := D) (ci := 2) (v := .ref (ad 13)) (C := RX2) (T := TX2) (N := 7) hx hb hts iX2_noteTouch_X2 hown hK hP 0 rfl rfl 0 (by decide) (hts (.fieldLink RX2 9 "DecoyHouse$Watch" "tale" "[I") (by decide +kernel)) (fun _ h9 => h9) rfl dX2_noteTouch_38 ?_
          refine lv_aload_n hx hb dX2_noteTouch_41 rfl (lv_at hl 0 rfl) ?_
          refine va_get (D := D) (ci := 2) (v := .int Wn) (C := RX2) (T := TX2) (N := 7) hx hb hts iX2_noteTouch_X2 hown hK hP 0 rfl rfl 4 (by decide) (hts (.fieldLink RX2 31 "DecoyHouse$Watch" "touches" "I") (by decide +kernel)) (fun _ h9 => h9) rfl dX2_noteTouch_42 ?_
          refine lv_iload_n hx hb dX2_noteTouch_45 rfl (lv_at hl 1 rfl) ?_
          refine va_iast hx hb hK hP hD hS 1 0 rfl rfl hw.1 dX2_noteTouch_46 (fun H locs hP hD hS => ?_)
          obtain ⟨Wt_7, eWt_7⟩ : ∃ y : Nat → Int32, y = upd Wt (Wn).toNatClampNeg p1 := ⟨_, rfl⟩
          have hw := gq_at1 hw.2 eWt_7
          have hP : va_P D vwCl (wdW ad ck Wt_7 Wa Wk Wd Wn We Wb) H := by rw [eWt_7]; exact hP
          have hD : va_D A (wdW ad ck Wt_7 Wa Wk Wd Wn We Wb) := by rw [eWt_7]; exact hD
          refine lv_aload_n hx hb dX2_noteTouch_47 rfl (lv_at hl 0 rfl) ?_
          refine lv_dup hx hb dX2_noteTouch_48 rfl ?_
          refine va_get (D := D) (ci := 2) (v := .int Wn) (C := RX2) (T := TX2) (N := 7) hx hb hts iX2_noteTouch_X2 hown hK hP 0 rfl rfl 4 (by decide) (hts (.fieldLink RX2 31 "DecoyHouse$Watch" "touches" "I") (by decide +kernel)) (fun _ h9 => h9) rfl dX2_noteTouch_49 ?_
          refine lv_iconst (v := 1) hx hb dX2_noteTouch_52 (by decide) ?_
          refine lv_iadd hx hb dX2_noteTouch_53 ?_
          refine lv_topi (fun v8 ev8 => ?_)
          have hw := gq_at1 hw ev8
          refine va_put (D := D) (ci := 2) (v := .int v8) (ty := .int) (C := RX2) (T := TX2) (N := 7) hx hb hts iX2_noteTouch_X2 tyX2 tyX2_ok nmX2 hown hK hP hD hS 0 rfl rfl 4 (by decide) (hts (.fieldLink RX2 31 "DecoyHouse$Watch" "touches" "I") (by decide +kernel)) (fun _ h9 => h9) rfl (by decide +kernel) rfl rfl (Nat.le_of_ble_eq_true rfl) dX2_noteTouch_54 (fun H locs hP hD hS => ?_)
          have hP : va_P D vwCl (wdW ad ck Wt_7 Wa Wk Wd v8 We Wb) H := hP
          have hD : va_D A (wdW ad ck Wt_7 Wa Wk Wd v8 We Wb) := hD
          refine lv_iconst (v := 1) hx hb dX2_noteTouch_57 (by decide) ?_
          exact hz 1 (Wt_7, v8) _ _ _ _ dX2_noteTouch_58 gq_zb1 hw hP hD hS
        · have hw := gq_f c6 hw
          refine lv_iconst (v := 0) hx hb dX2_noteTouch_35 (by decide) ?_
          exact hz 0 (Wt, Wn) _ _ _ _ dX2_noteTouch_36 gq_zb0 hw hP hD hS

def wl_X2_openFrom_4 (p1 : Int32) (Wt : Nat → Int32) (Wd : Int32) (Wn : Int32)   (post : Int32 → Prop) : Nat → Int32 → Int32 → Prop
  | 0, _, _ => False
  | n4 + 1, x1, x2 => (if 6 ≤ x2 then post (-1) else (if Wn ≤ x1 then post x2 else (if x1 < 6 then wp_X4_placeOn p1 x2 (fun (r6 : Int32) => wp_X4_has Wd r6 (fun (r7 : Int32) => (if r7 = 0 then gq_nm (x2 + 1) (fun v9 : Int32 => wl_X2_openFrom_4 p1 Wt Wd Wn post n4 x1 v9) else vp_in x1 6 ∧ (if (Wt (x1).toNatClampNeg) = r6 then gq_nm (x1 + 1) (fun v11 : Int32 => gq_nm (x2 + 1) (fun v12 : Int32 => wl_X2_openFrom_4 p1 Wt Wd Wn post n4 v11 v12)) else post (-1))))) else post x2)))

def wp_X2_openFrom (p1 : Int32) (Wt : Nat → Int32) (Wd : Int32) (Wn : Int32) (post : Int32 → Prop) : Prop :=
  ∃ k4, wl_X2_openFrom_4 p1 Wt Wd Wn post k4 0 0

theorem iX2_openFrom_X2 : ∀ w ∈ wsX20, w ∈ wsX2_openFrom := by decide +kernel
set_option maxHeartbeats 4000000 in
set_option maxRecDepth 100000 in
theorem c_X2_openFrom (l : Launch) (D : va_G) (ad : Nat → Nat) (ck : Nat → ClassId) (sz : Nat) (Wt : Nat → Int32) (Wa : Nat → Int32) (Wk : Nat → Int32) (Wd : Int32) (Wn : Int32) (We : Int32) (Wb : Int32) (p1 : Int32) (post : Int32 → Prop) (hw : wp_X2_openFrom p1 Wt Wd Wn post) : Met l yX2_openFrom wsX2_openFrom { frames := 1, cells := 0, slots := 0, locals := 21 } (va_Pc [.ref (ad 12), .int p1] (gq_pre D (tyW ck) (wdW ad ck Wt Wa Wk Wd Wn We Wb) sz)) (va_Qi (fun (r : Int32) (_ : Unit) => post r ) (gq_at D (va_A (wdW ad ck Wt Wa Wk Wd Wn We Wb) sz) (fun (_ : Unit) => (wdW ad ck Wt Wa Wk Wd Wn We Wb))) (va_A (wdW ad ck Wt Wa Wk Wd Wn We Wb) sz)) 0 0 (va_A (wdW ad ck Wt Wa Wk Wd Wn We Wb) sz) := by
  refine gq_meti (cc := cX2_openFrom) (maxL := 5) (lv := [(0, .ref (ad 12)), (1, .int p1)]) (by decide) rfl (Nat.le_of_ble_eq_true rfl) rfl ?_
  intro p e s m below meth c A Q ls H locs hx hb hml hown hts hnw hA hK hP hD hS hl hz
  refine lv_iconst (v := 0) hx hb dX2_openFrom_0 (by decide) ?_
  refine lv_istore_n (lv' := [(2, .int 0), (0, .ref (ad 12)), (1, .int p1)]) hx hb dX2_openFrom_1 rfl hl (by decide) rfl (fun ls hl => ?_)
  refine lv_iconst (v := 0) hx hb dX2_openFrom_2 (by decide) ?_
  refine lv_istore_n (lv' := [(3, .int 0), (2, .int 0), (0, .ref (ad 12)), (1, .int p1)]) hx hb dX2_openFrom_3 rfl hl (by decide) rfl (fun ls hl => ?_)
  have hL4 : ∀ (n : Nat) (x1 : Int32) (x2 : Int32) (H : Heap) (locs : List Loc), wl_X2_openFrom_4 p1 Wt Wd Wn post n x1 x2 → va_P D vwCl (wdW ad ck Wt Wa Wk Wd Wn We Wb) H → va_D A (wdW ad ck Wt Wa Wk Wd Wn We Wb) → va_S A s.heap H locs → ∀ ls : Array Slot, lv_has ls 5 [(0, .ref (ad 12)), (1, .int p1), (2, .int x1), (3, .int x2)] → W p l e { frames := 1, cells := 0, slots := 0, locals := 21 } s m ([.ref (ad 12), .int p1] : List Value).toArray below meth c H locs 0 0 Q (F0 m 4 ls []) := by
    intro n
    induction n with
    | zero =>
      intro x1 x2 H locs hw
      exact hw.elim
    | succ n ih =>
      intro x1 x2 H locs hw hP hD hS ls hl
      refine lv_iload_n hx hb dX2_openFrom_4 rfl (lv_at hl 3 rfl) ?_
      refine lv_bipush (v := 6) hx hb dX2_openFrom_5 (by decide) ?_
      refine lv_icmp_ge (tgt := 67) hx hb dX2_openFrom_7 (by decide) (fun c3 => ?_) (fun c3 => ?_)
      · have hw := gq_t c3 hw
        refine lv_iconst (v := (-1)) hx hb dX2_openFrom_67 (by decide) ?_
        exact hz (-1) () _ _ _ _ dX2_openFrom_68 hw hP hD hS
      · have hw := gq_f c3 hw
        refine lv_iload_n hx hb dX2_openFrom_10 rfl (lv_at hl 2 rfl) ?_
        refine lv_aload_n hx hb dX2_openFrom_11 rfl (lv_at hl 0 rfl) ?_
        refine va_get (D := D) (ci := 2) (v := .int Wn) (C := RX2) (T := TX2) (N := 7) hx hb hts iX2_openFrom_X2 hown hK hP 0 rfl rfl 4 (by decide) (hts (.fieldLink RX2 31 "DecoyHouse$Watch" "touches" "I") (by decide +kernel)) (fun _ h9 => h9) rfl dX2_openFrom_12 ?_
        refine lv_icmp_ge (tgt := 24) hx hb dX2_openFrom_15 (by decide) (fun c4 => ?_) (fun c4 => ?_)
        · have hw := gq_t c4 hw
          refine lv_iload_n hx hb dX2_openFrom_24 rfl (lv_at hl 3 rfl) ?_
          exact hz x2 () _ _ _ _ dX2_openFrom_25 hw hP hD hS
        · have hw := gq_f c4 hw
          refine lv_iload_n hx hb dX2_openFrom_18 rfl (lv_at hl 2 rfl) ?_
          refine lv_bipush (v := 6) hx hb dX2_openFrom_19 (by decide) ?_
          refine lv_icmp_lt (tgt := 26) hx hb dX2_openFrom_21 (by decide) (fun c5 => ?_) (fun c5 => ?_)
          · have hw := gq_t c5 hw
            refine lv_iload_n hx hb dX2_openFrom_26 rfl (lv_at hl 1 rfl) ?_
            refine lv_iload_n hx hb dX2_openFrom_27 rfl (lv_at hl 3 rfl) ?_
            refine gq_calli (wsN := fun _ => (wdW ad ck Wt Wa Wk Wd Wn We Wb)) (va_runSN (As := [.int p1, .int x2]) (rest := []) ⟨hx, hb, hml, hown, hts⟩ (c_X4_placeOn l D H.size p1 x2 _ hw) ⟨va_cnB 2 hts gX2_openFrom_X4_placeOn_n52 rfl rfl rfl (hnw _ (List.mem_of_getElem? (i := 13) rfl)) (hts (.initialized RX4) (by decide +kernel)) (by decide +kernel) ⟨Nat.le_of_ble_eq_true rfl, Nat.le_of_ble_eq_true rfl⟩, hts (.static yX4_placeOn) (by decide +kernel), trivial⟩ (gq_preS hK [] rfl hP hD [] rfl rfl hnw) rfl rfl hl.1 rfl (lv_room (Nat.le_of_ble_eq_true rfl)) dX2_openFrom_28 ⟨Nat.zero_le _, Nat.zero_le _⟩) hP hD hS hA [] [0, 1, 2, 3] rfl rfl rfl (by decide) [0, 1, 2, 3] rfl (fun _ => rfl) (fun r6 _ H locs hw hP hD hS => ?_)
            refine lv_istore (lv' := [(4, .int r6), (0, .ref (ad 12)), (1, .int p1), (2, .int x1), (3, .int x2)]) hx hb dX2_openFrom_31 hl (by decide) rfl (fun ls hl => ?_)
            refine lv_aload_n hx hb dX2_openFrom_33 rfl (lv_at hl 1 rfl) ?_
            refine va_get (D := D) (ci := 2) (v := .int Wd) (C := RX2) (T := TX2) (N := 7) hx hb hts iX2_openFrom_X2 hown hK hP 0 rfl rfl 3 (by decide) (hts (.fieldLink RX2 27 "DecoyHouse$Watch" "decoys" "I") (by decide +kernel)) (fun _ h9 => h9) rfl dX2_openFrom_34 ?_
            refine lv_iload hx hb dX2_openFrom_37 (lv_at hl 0 rfl) ?_
            refine gq_calli (wsN := fun _ => (wdW ad ck Wt Wa Wk Wd Wn We Wb)) (va_runSN (As := [.int Wd, .int r6]) (rest := []) ⟨hx, hb, hml, hown, hts⟩ (c_X4_has l D H.size Wd r6 _ hw) ⟨va_cnB 2 hts gX2_openFrom_X4_has_n44 rfl rfl rfl (hnw _ (List.mem_of_getElem? (i := 12) rfl)) (hts (.initialized RX4) (by decide +kernel)) (by decide +kernel) ⟨Nat.le_of_ble_eq_true rfl, Nat.le_of_ble_eq_true rfl⟩, hts (.static yX4_has) (by decide +kernel), trivial⟩ (gq_preS hK [] rfl hP hD [] rfl rfl hnw) rfl rfl hl.1 rfl (lv_room (Nat.le_of_ble_eq_true rfl)) dX2_openFrom_39 ⟨Nat.zero_le _, Nat.zero_le _⟩) hP hD hS hA [] [0, 1, 2, 3] rfl rfl rfl (by decide) [0, 1, 2, 3] rfl (fun _ => rfl) (fun r7 _ H locs hw hP hD hS => ?_)
            refine lv_if_eq (tgt := 61) hx hb dX2_openFrom_42 (by decide) (fun c8 => ?_) (fun c8 => ?_)
            · have hw := gq_t c8 hw
              obtain ⟨v9, ev9⟩ : ∃ y : Int32, y = x2 + 1 := ⟨_, rfl⟩
              have hw := gq_at1 hw ev9
              refine lv_iinc (v := v9) (lv' := [(3, .int v9), (4, .int r6), (0, .ref (ad 12)), (1, .int p1), (2, .int x1)]) hx hb dX2_openFrom_61 hl (k := 4) rfl (by rw [ev9]; rfl) (by decide) rfl (fun ls hl => ?_)
              refine lv_goto (tgt := 4) hx hb dX2_openFrom_64 (by decide) ?_
              exact ih x1 v9 _ _ hw hP hD hS ls (lv_sub hl [2, 3, 4, 0] rfl)
            · have hw := gq_f c8 hw
              refine lv_aload_n hx hb dX2_openFrom_45 rfl (lv_at hl 1 rfl) ?_
              refine va_get (D := D) (ci := 2) (v := .ref (ad 13)) (C := RX2) (T := TX2) (N := 7) hx hb hts iX2_openFrom_X2 hown hK hP 0 rfl rfl 0 (by decide) (hts (.fieldLink RX2 9 "DecoyHouse$Watch" "tale" "[I") (by decide +kernel)) (fun _ h9 => h9) rfl dX2_openFrom_46 ?_
              refine lv_iload_n hx hb dX2_openFrom_49 rfl (lv_at hl 3 rfl) ?_
              refine va_iald hx hb hK hP 1 0 rfl rfl hw.1 dX2_openFrom_50 ?_
              have hw := hw.2
              refine lv_iload hx hb dX2_openFrom_51 (lv_at hl 0 rfl) ?_
              refine lv_icmp_eq (tgt := 58) hx hb dX2_openFrom_53 (by decide) (fun c10 => ?_) (fun c10 => ?_)
              · have hw := gq_t c10 hw
                obtain ⟨v11, ev11⟩ : ∃ y : Int32, y = x1 + 1 := ⟨_, rfl⟩
                have hw := gq_at1 hw ev11
                refine lv_iinc (v := v11) (lv' := [(2, .int v11), (4, .int r6), (0, .ref (ad 12)), (1, .int p1), (3, .int x2)]) hx hb dX2_openFrom_58 hl (k := 3) rfl (by rw [ev11]; rfl) (by decide) rfl (fun ls hl => ?_)
                obtain ⟨v12, ev12⟩ : ∃ y : Int32, y = x2 + 1 := ⟨_, rfl⟩
                have hw := gq_at1 hw ev12
                refine lv_iinc (v := v12) (lv' := [(3, .int v12), (2, .int v11), (4, .int r6), (0, .ref (ad 12)), (1, .int p1)]) hx hb dX2_openFrom_61 hl (k := 4) rfl (by rw [ev12]; rfl) (by decide) rfl (fun ls hl => ?_)
                refine lv_goto (tgt := 4) hx hb dX2_openFrom_64 (by decide) ?_
                exact ih v11 v12 _ _ hw hP hD hS ls (lv_sub hl [3, 4, 1, 0] rfl)
              · have hw := gq_f c10 hw
                refine lv_iconst (v := (-1)) hx hb dX2_openFrom_56 (by decide) ?_
                exact hz (-1) () _ _ _ _ dX2_openFrom_57 hw hP hD hS
          · have hw := gq_f c5 hw
            refine lv_iload_n hx hb dX2_openFrom_24 rfl (lv_at hl 3 rfl) ?_
            exact hz x2 () _ _ _ _ dX2_openFrom_25 hw hP hD hS
  obtain ⟨n, hw⟩ := hw
  exact hL4 n 0 0 _ _ hw hP hD hS ls (lv_sub hl [2, 3, 1, 0] rfl)

def wp_X2_becomesKnown (p1 : Int32) (Wa : Nat → Int32) (Wk : Nat → Int32) (We : Int32) (Wb : Int32) (post : Int32 → (Nat → Int32) → (Nat → Int32) → Prop) : Prop :=
  (if p1 < 0 then post 0 Wa Wk else (if p1 < 9 then vp_in p1 9 ∧ vp_in p1 9 ∧ gq_nm (upd Wa (p1).toNatClampNeg ((Wa (p1).toNatClampNeg) + 1)) (fun Wa_3 : Nat → Int32 => vp_in p1 9 ∧ (if Wb ≤ (Wa_3 (p1).toNatClampNeg) then vp_in p1 9 ∧ gq_nm (upd Wa_3 (p1).toNatClampNeg 0) (fun Wa_5 : Nat → Int32 => vp_in p1 9 ∧ gq_nm (upd Wk (p1).toNatClampNeg (We + 10)) (fun Wk_6 : Nat → Int32 => post 1 Wa_5 Wk_6)) else post 0 Wa_3 Wk)) else post 0 Wa Wk))

theorem iX2_becomesKnown_X2 : ∀ w ∈ wsX20, w ∈ wsX2_becomesKnown := by decide +kernel
set_option maxHeartbeats 4000000 in
set_option maxRecDepth 100000 in
theorem c_X2_becomesKnown (l : Launch) (D : va_G) (ad : Nat → Nat) (ck : Nat → ClassId) (sz : Nat) (Wt : Nat → Int32) (Wa : Nat → Int32) (Wk : Nat → Int32) (Wd : Int32) (Wn : Int32) (We : Int32) (Wb : Int32) (p1 : Int32) (post : Int32 → (Nat → Int32) → (Nat → Int32) → Prop) (hw : wp_X2_becomesKnown p1 Wa Wk We Wb post) : Met l yX2_becomesKnown wsX2_becomesKnown { frames := 0, cells := 0, slots := 0, locals := 0 } (va_Pc [.ref (ad 12), .int p1] (gq_pre D (tyW ck) (wdW ad ck Wt Wa Wk Wd Wn We Wb) sz)) (va_Qi (fun (r : Int32) (u : (Nat → Int32) × (Nat → Int32)) => post r u.1 u.2) (gq_at D (va_A (wdW ad ck Wt Wa Wk Wd Wn We Wb) sz) (fun (u : (Nat → Int32) × (Nat → Int32)) => (wdW ad ck Wt u.1 u.2 Wd Wn We Wb))) (va_A (wdW ad ck Wt Wa Wk Wd Wn We Wb) sz)) 0 0 (va_A (wdW ad ck Wt Wa Wk Wd Wn We Wb) sz) := by
  refine gq_metz (cc := cX2_becomesKnown) (maxL := 2) (lv := [(0, .ref (ad 12)), (1, .int p1)]) (by decide) rfl (Nat.le_of_ble_eq_true rfl) rfl ?_
  intro p e s m below meth c A Q ls H locs hx hb hml hown hts hnw hA hK hP hD hS hl hz
  refine lv_iload_n hx hb dX2_becomesKnown_0 rfl (lv_at hl 1 rfl) ?_
  refine lv_if_lt (tgt := 10) hx hb dX2_becomesKnown_1 (by decide) (fun c1 => ?_) (fun c1 => ?_)
  · have hw := gq_t c1 hw
    refine lv_iconst (v := 0) hx hb dX2_becomesKnown_10 (by decide) ?_
    exact hz 0 (Wa, Wk) _ _ _ _ dX2_becomesKnown_11 gq_zb0 hw hP hD hS
  · have hw := gq_f c1 hw
    refine lv_iload_n hx hb dX2_becomesKnown_4 rfl (lv_at hl 1 rfl) ?_
    refine lv_bipush (v := 9) hx hb dX2_becomesKnown_5 (by decide) ?_
    refine lv_icmp_lt (tgt := 12) hx hb dX2_becomesKnown_7 (by decide) (fun c2 => ?_) (fun c2 => ?_)
    · have hw := gq_t c2 hw
      refine lv_aload_n hx hb dX2_becomesKnown_12 rfl (lv_at hl 0 rfl) ?_
      refine va_get (D := D) (ci := 2) (v := .ref (ad 14)) (C := RX2) (T := TX2) (N := 7) hx hb hts iX2_becomesKnown_X2 hown hK hP 0 rfl rfl 1 (by decide) (hts (.fieldLink RX2 15 "DecoyHouse$Watch" "talesAt" "[I") (by decide +kernel)) (fun _ h9 => h9) rfl dX2_becomesKnown_13 ?_
      refine lv_iload_n hx hb dX2_becomesKnown_16 rfl (lv_at hl 1 rfl) ?_
      refine lv_dup2_11 hx hb dX2_becomesKnown_17 rfl rfl ?_
      refine va_iald hx hb hK hP 2 1 rfl rfl hw.1 dX2_becomesKnown_18 ?_
      have hw := hw.2
      refine lv_iconst (v := 1) hx hb dX2_becomesKnown_19 (by decide) ?_
      refine lv_iadd hx hb dX2_becomesKnown_20 ?_
      refine va_iast hx hb hK hP hD hS 2 1 rfl rfl hw.1 dX2_becomesKnown_21 (fun H locs hP hD hS => ?_)
      obtain ⟨Wa_3, eWa_3⟩ : ∃ y : Nat → Int32, y = upd Wa (p1).toNatClampNeg ((Wa (p1).toNatClampNeg) + 1) := ⟨_, rfl⟩
      have hw := gq_at1 hw.2 eWa_3
      have hP : va_P D vwCl (wdW ad ck Wt Wa_3 Wk Wd Wn We Wb) H := by rw [eWa_3]; exact hP
      have hD : va_D A (wdW ad ck Wt Wa_3 Wk Wd Wn We Wb) := by rw [eWa_3]; exact hD
      refine lv_aload_n hx hb dX2_becomesKnown_22 rfl (lv_at hl 0 rfl) ?_
      refine va_get (D := D) (ci := 2) (v := .ref (ad 14)) (C := RX2) (T := TX2) (N := 7) hx hb hts iX2_becomesKnown_X2 hown hK hP 0 rfl rfl 1 (by decide) (hts (.fieldLink RX2 15 "DecoyHouse$Watch" "talesAt" "[I") (by decide +kernel)) (fun _ h9 => h9) rfl dX2_becomesKnown_23 ?_
      refine lv_iload_n hx hb dX2_becomesKnown_26 rfl (lv_at hl 1 rfl) ?_
      refine va_iald hx hb hK hP 2 1 rfl rfl hw.1 dX2_becomesKnown_27 ?_
      have hw := hw.2
      refine lv_aload_n hx hb dX2_becomesKnown_28 rfl (lv_at hl 0 rfl) ?_
      refine va_get (D := D) (ci := 2) (v := .int Wb) (C := RX2) (T := TX2) (N := 7) hx hb hts iX2_becomesKnown_X2 hown hK hP 0 rfl rfl 6 (by decide) (hts (.fieldLink RX2 37 "DecoyHouse$Watch" "bearing" "I") (by decide +kernel)) (fun _ h9 => h9) rfl dX2_becomesKnown_29 ?_
      refine lv_icmp_ge (tgt := 37) hx hb dX2_becomesKnown_32 (by decide) (fun c4 => ?_) (fun c4 => ?_)
      · have hw := gq_t c4 hw
        refine lv_aload_n hx hb dX2_becomesKnown_37 rfl (lv_at hl 0 rfl) ?_
        refine va_get (D := D) (ci := 2) (v := .ref (ad 14)) (C := RX2) (T := TX2) (N := 7) hx hb hts iX2_becomesKnown_X2 hown hK hP 0 rfl rfl 1 (by decide) (hts (.fieldLink RX2 15 "DecoyHouse$Watch" "talesAt" "[I") (by decide +kernel)) (fun _ h9 => h9) rfl dX2_becomesKnown_38 ?_
        refine lv_iload_n hx hb dX2_becomesKnown_41 rfl (lv_at hl 1 rfl) ?_
        refine lv_iconst (v := 0) hx hb dX2_becomesKnown_42 (by decide) ?_
        refine va_iast hx hb hK hP hD hS 2 1 rfl rfl hw.1 dX2_becomesKnown_43 (fun H locs hP hD hS => ?_)
        obtain ⟨Wa_5, eWa_5⟩ : ∃ y : Nat → Int32, y = upd Wa_3 (p1).toNatClampNeg 0 := ⟨_, rfl⟩
        have hw := gq_at1 hw.2 eWa_5
        have hP : va_P D vwCl (wdW ad ck Wt Wa_5 Wk Wd Wn We Wb) H := by rw [eWa_5]; exact hP
        have hD : va_D A (wdW ad ck Wt Wa_5 Wk Wd Wn We Wb) := by rw [eWa_5]; exact hD
        refine lv_aload_n hx hb dX2_becomesKnown_44 rfl (lv_at hl 0 rfl) ?_
        refine va_get (D := D) (ci := 2) (v := .ref (ad 15)) (C := RX2) (T := TX2) (N := 7) hx hb hts iX2_becomesKnown_X2 hown hK hP 0 rfl rfl 2 (by decide) (hts (.fieldLink RX2 18 "DecoyHouse$Watch" "knownUntil" "[I") (by decide +kernel)) (fun _ h9 => h9) rfl dX2_becomesKnown_45 ?_
        refine lv_iload_n hx hb dX2_becomesKnown_48 rfl (lv_at hl 1 rfl) ?_
        refine lv_aload_n hx hb dX2_becomesKnown_49 rfl (lv_at hl 0 rfl) ?_
        refine va_get (D := D) (ci := 2) (v := .int We) (C := RX2) (T := TX2) (N := 7) hx hb hts iX2_becomesKnown_X2 hown hK hP 0 rfl rfl 5 (by decide) (hts (.fieldLink RX2 34 "DecoyHouse$Watch" "date" "I") (by decide +kernel)) (fun _ h9 => h9) rfl dX2_becomesKnown_50 ?_
        refine lv_bipush (v := 10) hx hb dX2_becomesKnown_53 (by decide) ?_
        refine lv_iadd hx hb dX2_becomesKnown_55 ?_
        refine va_iast hx hb hK hP hD hS 3 2 rfl rfl hw.1 dX2_becomesKnown_56 (fun H locs hP hD hS => ?_)
        obtain ⟨Wk_6, eWk_6⟩ : ∃ y : Nat → Int32, y = upd Wk (p1).toNatClampNeg (We + 10) := ⟨_, rfl⟩
        have hw := gq_at1 hw.2 eWk_6
        have hP : va_P D vwCl (wdW ad ck Wt Wa_5 Wk_6 Wd Wn We Wb) H := by rw [eWk_6]; exact hP
        have hD : va_D A (wdW ad ck Wt Wa_5 Wk_6 Wd Wn We Wb) := by rw [eWk_6]; exact hD
        refine lv_iconst (v := 1) hx hb dX2_becomesKnown_57 (by decide) ?_
        exact hz 1 (Wa_5, Wk_6) _ _ _ _ dX2_becomesKnown_58 gq_zb1 hw hP hD hS
      · have hw := gq_f c4 hw
        refine lv_iconst (v := 0) hx hb dX2_becomesKnown_35 (by decide) ?_
        exact hz 0 (Wa_3, Wk) _ _ _ _ dX2_becomesKnown_36 gq_zb0 hw hP hD hS
    · have hw := gq_f c2 hw
      refine lv_iconst (v := 0) hx hb dX2_becomesKnown_10 (by decide) ?_
      exact hz 0 (Wa, Wk) _ _ _ _ dX2_becomesKnown_11 gq_zb0 hw hP hD hS

def wl_X2_endTale_4 (Wt : Nat → Int32) (Wn : Int32) (We : Int32) (Wb : Int32)   (post : Int32 → (Nat → Int32) → (Nat → Int32) → Int32 → Prop) : Nat → Int32 → Int32 → (Nat → Int32) → (Nat → Int32) → Prop
  | 0, _, _, _, _ => False
  | n4 + 1, x1, x2, Wa_3, Wk_4 => (if Wn ≤ x2 then post x1 Wa_3 Wk_4 0 else (if 6 ≤ x2 then post x1 Wa_3 Wk_4 0 else vp_in x2 6 ∧ wp_X2_becomesKnown (Wt (x2).toNatClampNeg) Wa_3 Wk_4 We Wb (fun (r7 : Int32) (Wa_8 : Nat → Int32) (Wk_9 : Nat → Int32) => (if r7 = 0 then gq_nm (x2 + 1) (fun v11 : Int32 => wl_X2_endTale_4 Wt Wn We Wb post n4 x1 v11 Wa_8 Wk_9) else gq_nm (x1 + 1) (fun v12 : Int32 => gq_nm (x2 + 1) (fun v13 : Int32 => wl_X2_endTale_4 Wt Wn We Wb post n4 v12 v13 Wa_8 Wk_9))))))

def wp_X2_endTale  (Wt : Nat → Int32) (Wa : Nat → Int32) (Wk : Nat → Int32) (Wn : Int32) (We : Int32) (Wb : Int32) (post : Int32 → (Nat → Int32) → (Nat → Int32) → Int32 → Prop) : Prop :=
  ∃ k4, wl_X2_endTale_4 Wt Wn We Wb post k4 0 0 Wa Wk

theorem iX2_endTale_X2 : ∀ w ∈ wsX20, w ∈ wsX2_endTale := by decide +kernel
set_option maxHeartbeats 4000000 in
set_option maxRecDepth 100000 in
theorem c_X2_endTale (l : Launch) (D : va_G) (ad : Nat → Nat) (ck : Nat → ClassId) (sz : Nat) (Wt : Nat → Int32) (Wa : Nat → Int32) (Wk : Nat → Int32) (Wd : Int32) (Wn : Int32) (We : Int32) (Wb : Int32)  (post : Int32 → (Nat → Int32) → (Nat → Int32) → Int32 → Prop) (hw : wp_X2_endTale Wt Wa Wk Wn We Wb post) : Met l yX2_endTale wsX2_endTale { frames := 1, cells := 0, slots := 0, locals := 21 } (va_Pc [.ref (ad 12)] (gq_pre D (tyW ck) (wdW ad ck Wt Wa Wk Wd Wn We Wb) sz)) (va_Qi (fun (r : Int32) (u : (Nat → Int32) × (Nat → Int32) × Int32) => post r u.1 u.2.1 u.2.2) (gq_at D (va_A (wdW ad ck Wt Wa Wk Wd Wn We Wb) sz) (fun (u : (Nat → Int32) × (Nat → Int32) × Int32) => (wdW ad ck Wt u.1 u.2.1 Wd u.2.2 We Wb))) (va_A (wdW ad ck Wt Wa Wk Wd Wn We Wb) sz)) 0 0 (va_A (wdW ad ck Wt Wa Wk Wd Wn We Wb) sz) := by
  refine gq_meti (cc := cX2_endTale) (maxL := 3) (lv := [(0, .ref (ad 12))]) (by decide) rfl (Nat.le_of_ble_eq_true rfl) rfl ?_
  intro p e s m below meth c A Q ls H locs hx hb hml hown hts hnw hA hK hP hD hS hl hz
  refine lv_iconst (v := 0) hx hb dX2_endTale_0 (by decide) ?_
  refine lv_istore_n (lv' := [(1, .int 0), (0, .ref (ad 12))]) hx hb dX2_endTale_1 rfl hl (by decide) rfl (fun ls hl => ?_)
  refine lv_iconst (v := 0) hx hb dX2_endTale_2 (by decide) ?_
  refine lv_istore_n (lv' := [(2, .int 0), (1, .int 0), (0, .ref (ad 12))]) hx hb dX2_endTale_3 rfl hl (by decide) rfl (fun ls hl => ?_)
  have hL4 : ∀ (n : Nat) (x1 : Int32) (x2 : Int32) (Wa_3 : Nat → Int32) (Wk_4 : Nat → Int32) (H : Heap) (locs : List Loc), wl_X2_endTale_4 Wt Wn We Wb post n x1 x2 Wa_3 Wk_4 → va_P D vwCl (wdW ad ck Wt Wa_3 Wk_4 Wd Wn We Wb) H → va_D A (wdW ad ck Wt Wa_3 Wk_4 Wd Wn We Wb) → va_S A s.heap H locs → ∀ ls : Array Slot, lv_has ls 3 [(0, .ref (ad 12)), (1, .int x1), (2, .int x2)] → W p l e { frames := 1, cells := 0, slots := 0, locals := 21 } s m ([.ref (ad 12)] : List Value).toArray below meth c H locs 0 0 Q (F0 m 4 ls []) := by
    intro n
    induction n with
    | zero =>
      intro x1 x2 Wa_3 Wk_4 H locs hw
      exact hw.elim
    | succ n ih =>
      intro x1 x2 Wa_3 Wk_4 H locs hw hP hD hS ls hl
      refine lv_iload_n hx hb dX2_endTale_4 rfl (lv_at hl 2 rfl) ?_
      refine lv_aload_n hx hb dX2_endTale_5 rfl (lv_at hl 0 rfl) ?_
      refine va_get (D := D) (ci := 2) (v := .int Wn) (C := RX2) (T := TX2) (N := 7) hx hb hts iX2_endTale_X2 hown hK hP 0 rfl rfl 4 (by decide) (hts (.fieldLink RX2 31 "DecoyHouse$Watch" "touches" "I") (by decide +kernel)) (fun _ h9 => h9) rfl dX2_endTale_6 ?_
      refine lv_icmp_ge (tgt := 40) hx hb dX2_endTale_9 (by decide) (fun c5 => ?_) (fun c5 => ?_)
      · have hw := gq_t c5 hw
        refine lv_aload_n hx hb dX2_endTale_40 rfl (lv_at hl 0 rfl) ?_
        refine lv_iconst (v := 0) hx hb dX2_endTale_41 (by decide) ?_
        refine va_put (D := D) (ci := 2) (v := .int 0) (ty := .int) (C := RX2) (T := TX2) (N := 7) hx hb hts iX2_endTale_X2 tyX2 tyX2_ok nmX2 hown hK hP hD hS 0 rfl rfl 4 (by decide) (hts (.fieldLink RX2 31 "DecoyHouse$Watch" "touches" "I") (by decide +kernel)) (fun _ h9 => h9) rfl (by decide +kernel) rfl rfl (Nat.le_of_ble_eq_true rfl) dX2_endTale_42 (fun H locs hP hD hS => ?_)
        have hP : va_P D vwCl (wdW ad ck Wt Wa_3 Wk_4 Wd 0 We Wb) H := hP
        have hD : va_D A (wdW ad ck Wt Wa_3 Wk_4 Wd 0 We Wb) := hD
        refine lv_iload_n hx hb dX2_endTale_45 rfl (lv_at hl 1 rfl) ?_
        exact hz x1 (Wa_3, Wk_4, 0) _ _ _ _ dX2_endTale_46 hw hP hD hS
      · have hw := gq_f c5 hw
        refine lv_iload_n hx hb dX2_endTale_12 rfl (lv_at hl 2 rfl) ?_
        refine lv_bipush (v := 6) hx hb dX2_endTale_13 (by decide) ?_
        refine lv_icmp_ge (tgt := 40) hx hb dX2_endTale_15 (by decide) (fun c6 => ?_) (fun c6 => ?_)
        · have hw := gq_t c6 hw
          refine lv_aload_n hx hb dX2_endTale_40 rfl (lv_at hl 0 rfl) ?_
          refine lv_iconst (v := 0) hx hb dX2_endTale_41 (by decide) ?_
          refine va_put (D := D) (ci := 2) (v := .int 0) (ty := .int) (C := RX2) (T := TX2) (N := 7) hx hb hts iX2_endTale_X2 tyX2 tyX2_ok nmX2 hown hK hP hD hS 0 rfl rfl 4 (by decide) (hts (.fieldLink RX2 31 "DecoyHouse$Watch" "touches" "I") (by decide +kernel)) (fun _ h9 => h9) rfl (by decide +kernel) rfl rfl (Nat.le_of_ble_eq_true rfl) dX2_endTale_42 (fun H locs hP hD hS => ?_)
          have hP : va_P D vwCl (wdW ad ck Wt Wa_3 Wk_4 Wd 0 We Wb) H := hP
          have hD : va_D A (wdW ad ck Wt Wa_3 Wk_4 Wd 0 We Wb) := hD
          refine lv_iload_n hx hb dX2_endTale_45 rfl (lv_at hl 1 rfl) ?_
          exact hz x1 (Wa_3, Wk_4, 0) _ _ _ _ dX2_endTale_46 hw hP hD hS
        · have hw := gq_f c6 hw
          refine lv_aload_n hx hb dX2_endTale_18 rfl (lv_at hl 0 rfl) ?_
          refine lv_aload_n hx hb dX2_endTale_19 rfl (lv_at hl 0 rfl) ?_
          refine va_get (D := D) (ci := 2) (v := .ref (ad 13)) (C := RX2) (T := TX2) (N := 7) hx hb hts iX2_endTale_X2 hown hK hP 0 rfl rfl 0 (by decide) (hts (.fieldLink RX2 9 "DecoyHouse$Watch" "tale" "[I") (by decide +kernel)) (fun _ h9 => h9) rfl dX2_endTale_20 ?_
          refine lv_iload_n hx hb dX2_endTale_23 rfl (lv_at hl 2 rfl) ?_
          refine va_iald hx hb hK hP 1 0 rfl rfl hw.1 dX2_endTale_24 ?_
          have hw := hw.2
          refine gq_calli (wsN := fun u => (wdW ad ck Wt u.1 u.2 Wd Wn We Wb)) (va_runV (As := [.int (Wt (x2).toNatClampNeg)]) (rest := []) ⟨hx, hb, hml, hown, hts⟩ (c_X2_becomesKnown l D ad ck H.size Wt Wa_3 Wk_4 Wd Wn We Wb (Wt (x2).toNatClampNeg) _ hw) (cwV 1 hts gX2_endTale_X2_becomesKnown rfl rfl rfl (by decide +kernel) ⟨Nat.le_of_ble_eq_true rfl, Nat.le_of_ble_eq_true rfl⟩) (gq_preV hK [0, 1, 2] rfl hP hD [0, 1, 2, 3] rfl rfl hnw 2 0 rfl rfl) rfl rfl hl.1 rfl (lv_room (Nat.le_of_ble_eq_true rfl)) dX2_endTale_25 ⟨Nat.zero_le _, Nat.zero_le _⟩) hP hD hS hA [0, 1, 2, 3] [] rfl rfl rfl (by decide) [0, 1, 2, 3] rfl (fun _ => rfl) (fun r7 u_ H locs hw hP hD hS => ?_)
          obtain ⟨Wa_8, Wk_9⟩ := u_
          have hP : va_P D vwCl (wdW ad ck Wt Wa_8 Wk_9 Wd Wn We Wb) H := hP
          have hD : va_D A (wdW ad ck Wt Wa_8 Wk_9 Wd Wn We Wb) := hD
          refine lv_if_eq (tgt := 34) hx hb dX2_endTale_28 (by decide) (fun c10 => ?_) (fun c10 => ?_)
          · have hw := gq_t c10 hw
            obtain ⟨v11, ev11⟩ : ∃ y : Int32, y = x2 + 1 := ⟨_, rfl⟩
            have hw := gq_at1 hw ev11
            refine lv_iinc (v := v11) (lv' := [(2, .int v11), (0, .ref (ad 12)), (1, .int x1)]) hx hb dX2_endTale_34 hl (k := 2) rfl (by rw [ev11]; rfl) (by decide) rfl (fun ls hl => ?_)
            refine lv_goto (tgt := 4) hx hb dX2_endTale_37 (by decide) ?_
            exact ih x1 v11 Wa_8 Wk_9 _ _ hw hP hD hS ls (lv_sub hl [1, 2, 0] rfl)
          · have hw := gq_f c10 hw
            obtain ⟨v12, ev12⟩ : ∃ y : Int32, y = x1 + 1 := ⟨_, rfl⟩
            have hw := gq_at1 hw ev12
            refine lv_iinc (v := v12) (lv' := [(1, .int v12), (0, .ref (ad 12)), (2, .int x2)]) hx hb dX2_endTale_31 hl (k := 1) rfl (by rw [ev12]; rfl) (by decide) rfl (fun ls hl => ?_)
            obtain ⟨v13, ev13⟩ : ∃ y : Int32, y = x2 + 1 := ⟨_, rfl⟩
            have hw := gq_at1 hw ev13
            refine lv_iinc (v := v13) (lv' := [(2, .int v13), (1, .int v12), (0, .ref (ad 12))]) hx hb dX2_endTale_34 hl (k := 2) rfl (by rw [ev13]; rfl) (by decide) rfl (fun ls hl => ?_)
            refine lv_goto (tgt := 4) hx hb dX2_endTale_37 (by decide) ?_
            exact ih v12 v13 Wa_8 Wk_9 _ _ hw hP hD hS ls (lv_sub hl [2, 1, 0] rfl)
  obtain ⟨n, hw⟩ := hw
  exact hL4 n 0 0 Wa Wk _ _ hw hP hD hS ls (lv_sub hl [2, 1, 0] rfl)

