def wp_X0_clear (p1 : Int32) (Pd : Nat → Int32) (Pm : Nat → Int32) (Ps : Int32) (Pg : Int32) (Pj : Int32) (post : (Nat → Int32) → (Nat → Int32) → Int32 → Int32 → Int32 → Prop) : Prop :=
  gq_nm (gq_fill 9 Pd 0) (fun Pd_1 : Nat → Int32 => gq_nm (gq_fill 9 Pm 0) (fun Pm_3 : Nat → Int32 => post Pd_1 Pm_3 p1 0 0))

theorem iX0_clear_X0 : ∀ w ∈ wsX00, w ∈ wsX0_clear := by decide +kernel
set_option maxHeartbeats 4000000 in
set_option maxRecDepth 100000 in
theorem c_X0_clear (l : Launch) (D : va_G) (ad : Nat → Nat) (ck : Nat → ClassId) (sz : Nat) (Pd : Nat → Int32) (Pm : Nat → Int32) (Ps : Int32) (Pg : Int32) (Pj : Int32) (p1 : Int32) (post : (Nat → Int32) → (Nat → Int32) → Int32 → Int32 → Int32 → Prop) (hw : wp_X0_clear p1 Pd Pm Ps Pg Pj post) : Met l yX0_clear wsX0_clear { frames := 1, cells := 0, slots := 0, locals := 23 } (va_Pc [.ref (ad 1), .int p1] (gq_pre D (tyP ck) (wdP ad ck Pd Pm Ps Pg Pj) sz)) (va_Qv (fun (u : (Nat → Int32) × (Nat → Int32) × Int32 × Int32 × Int32) => post u.1 u.2.1 u.2.2.1 u.2.2.2.1 u.2.2.2.2) (gq_at D (va_A (wdP ad ck Pd Pm Ps Pg Pj) sz) (fun (u : (Nat → Int32) × (Nat → Int32) × Int32 × Int32 × Int32) => (wdP ad ck u.1 u.2.1 u.2.2.1 u.2.2.2.1 u.2.2.2.2))) (va_A (wdP ad ck Pd Pm Ps Pg Pj) sz)) 0 0 (va_A (wdP ad ck Pd Pm Ps Pg Pj) sz) := by
  refine gq_metv (cc := cX0_clear) (maxL := 2) (lv := [(0, .ref (ad 1)), (1, .int p1)]) (by decide) rfl (Nat.le_of_ble_eq_true rfl) rfl ?_
  intro p e s m below meth c A Q ls H locs hx hb hml hown hts hnw hA hK hP hD hS hl hz
  refine lv_aload_n hx hb dX0_clear_0 rfl (lv_at hl 0 rfl) ?_
  refine va_get (D := D) (ci := 0) (v := .ref (ad 2)) (C := RX0) (T := TX0) (N := 5) hx hb hts iX0_clear_X0 hown hK hP 0 rfl rfl 0 (by decide) (hts (.fieldLink RX0 9 "DecoyHouse$Plan" "doorsFrom" "[I") (by decide +kernel)) (fun _ h9 => h9) rfl dX0_clear_1 ?_
  refine lv_iconst (v := 0) hx hb dX0_clear_4 (by decide) ?_
  refine gq_callv (wsN := fun u => (wdP ad ck u Pm Ps Pg Pj)) (va_runS (As := [.ref (ad 2), .int 0]) (rest := []) ⟨hx, hb, hml, hown, hts⟩ (c_J7_fill l D (ad 2) (ck 2) 9 H.size Pd 0 (by decide)) (va_cwS 2 hts gX0_clear_J7_fill_53178 rfl rfl rfl (by decide +kernel) ⟨Nat.le_of_ble_eq_true rfl, Nat.le_of_ble_eq_true rfl⟩) (gq_preS hK [0] rfl hP hD [1] rfl rfl hnw) rfl rfl hl.1 rfl (lv_room (Nat.le_of_ble_eq_true rfl)) dX0_clear_5 ⟨Nat.zero_le _, Nat.zero_le _⟩) hP hD hS hA [1] [0, 2] rfl rfl rfl (by decide) [0, 2, 1] rfl (fun _ => rfl) (fun Pd_1 H locs hf hP hD hS => ?_)
  have hw := gq_at1 hw hf
  have hP : va_P D vwCl (wdP ad ck Pd_1 Pm Ps Pg Pj) H := hP
  have hD : va_D A (wdP ad ck Pd_1 Pm Ps Pg Pj) := hD
  refine lv_aload_n hx hb dX0_clear_8 rfl (lv_at hl 0 rfl) ?_
  refine va_get (D := D) (ci := 0) (v := .ref (ad 3)) (C := RX0) (T := TX0) (N := 5) hx hb hts iX0_clear_X0 hown hK hP 0 rfl rfl 1 (by decide) (hts (.fieldLink RX0 15 "DecoyHouse$Plan" "marksOf" "[I") (by decide +kernel)) (fun _ h9 => h9) rfl dX0_clear_9 ?_
  refine lv_iconst (v := 0) hx hb dX0_clear_12 (by decide) ?_
  refine gq_callv (wsN := fun u => (wdP ad ck Pd_1 u Ps Pg Pj)) (va_runS (As := [.ref (ad 3), .int 0]) (rest := []) ⟨hx, hb, hml, hown, hts⟩ (c_J7_fill l D (ad 3) (ck 3) 9 H.size Pm 0 (by decide)) (va_cwS 2 hts gX0_clear_J7_fill_53178 rfl rfl rfl (by decide +kernel) ⟨Nat.le_of_ble_eq_true rfl, Nat.le_of_ble_eq_true rfl⟩) (gq_preS hK [1] rfl hP hD [2] rfl rfl hnw) rfl rfl hl.1 rfl (lv_room (Nat.le_of_ble_eq_true rfl)) dX0_clear_13 ⟨Nat.zero_le _, Nat.zero_le _⟩) hP hD hS hA [2] [0, 1] rfl rfl rfl (by decide) [0, 1, 2] rfl (fun _ => rfl) (fun Pm_3 H locs hf hP hD hS => ?_)
  have hw := gq_at1 hw hf
  have hP : va_P D vwCl (wdP ad ck Pd_1 Pm_3 Ps Pg Pj) H := hP
  have hD : va_D A (wdP ad ck Pd_1 Pm_3 Ps Pg Pj) := hD
  refine lv_aload_n hx hb dX0_clear_16 rfl (lv_at hl 0 rfl) ?_
  refine lv_iload_n hx hb dX0_clear_17 rfl (lv_at hl 1 rfl) ?_
  refine va_put (D := D) (ci := 0) (v := .int p1) (ty := .int) (C := RX0) (T := TX0) (N := 5) hx hb hts iX0_clear_X0 tyX0 tyX0_ok nmX0 hown hK hP hD hS 0 rfl rfl 2 (by decide) (hts (.fieldLink RX0 24 "DecoyHouse$Plan" "size" "I") (by decide +kernel)) (fun _ h9 => h9) rfl (by decide +kernel) rfl rfl (Nat.le_of_ble_eq_true rfl) dX0_clear_18 (fun H locs hP hD hS => ?_)
  have hP : va_P D vwCl (wdP ad ck Pd_1 Pm_3 p1 Pg Pj) H := hP
  have hD : va_D A (wdP ad ck Pd_1 Pm_3 p1 Pg Pj) := hD
  refine lv_aload_n hx hb dX0_clear_21 rfl (lv_at hl 0 rfl) ?_
  refine lv_iconst (v := 0) hx hb dX0_clear_22 (by decide) ?_
  refine va_put (D := D) (ci := 0) (v := .int 0) (ty := .int) (C := RX0) (T := TX0) (N := 5) hx hb hts iX0_clear_X0 tyX0 tyX0_ok nmX0 hown hK hP hD hS 0 rfl rfl 3 (by decide) (hts (.fieldLink RX0 28 "DecoyHouse$Plan" "gates" "I") (by decide +kernel)) (fun _ h9 => h9) rfl (by decide +kernel) rfl rfl (Nat.le_of_ble_eq_true rfl) dX0_clear_23 (fun H locs hP hD hS => ?_)
  have hP : va_P D vwCl (wdP ad ck Pd_1 Pm_3 p1 0 Pj) H := hP
  have hD : va_D A (wdP ad ck Pd_1 Pm_3 p1 0 Pj) := hD
  refine lv_aload_n hx hb dX0_clear_26 rfl (lv_at hl 0 rfl) ?_
  refine lv_iconst (v := 0) hx hb dX0_clear_27 (by decide) ?_
  refine va_put (D := D) (ci := 0) (v := .int 0) (ty := .int) (C := RX0) (T := TX0) (N := 5) hx hb hts iX0_clear_X0 tyX0 tyX0_ok nmX0 hown hK hP hD hS 0 rfl rfl 4 (by decide) (hts (.fieldLink RX0 31 "DecoyHouse$Plan" "jewels" "I") (by decide +kernel)) (fun _ h9 => h9) rfl (by decide +kernel) rfl rfl (Nat.le_of_ble_eq_true rfl) dX0_clear_28 (fun H locs hP hD hS => ?_)
  have hP : va_P D vwCl (wdP ad ck Pd_1 Pm_3 p1 0 0) H := hP
  have hD : va_D A (wdP ad ck Pd_1 Pm_3 p1 0 0) := hD
  exact hz (Pd_1, Pm_3, p1, 0, 0) _ _ _ _ dX0_clear_31 hw hP hD hS

def wp_X0_size  (Ps : Int32) (post : Int32 → Prop) : Prop :=
  post Ps

theorem iX0_size_X0 : ∀ w ∈ wsX00, w ∈ wsX0_size := by decide +kernel
set_option maxHeartbeats 4000000 in
set_option maxRecDepth 100000 in
theorem c_X0_size (l : Launch) (D : va_G) (ad : Nat → Nat) (ck : Nat → ClassId) (sz : Nat) (Pd : Nat → Int32) (Pm : Nat → Int32) (Ps : Int32) (Pg : Int32) (Pj : Int32)  (post : Int32 → Prop) (hw : wp_X0_size Ps post) : Met l yX0_size wsX0_size { frames := 0, cells := 0, slots := 0, locals := 0 } (va_Pc [.ref (ad 1)] (gq_pre D (tyP ck) (wdP ad ck Pd Pm Ps Pg Pj) sz)) (va_Qi (fun (r : Int32) (_ : Unit) => post r ) (gq_at D (va_A (wdP ad ck Pd Pm Ps Pg Pj) sz) (fun (_ : Unit) => (wdP ad ck Pd Pm Ps Pg Pj))) (va_A (wdP ad ck Pd Pm Ps Pg Pj) sz)) 0 0 (va_A (wdP ad ck Pd Pm Ps Pg Pj) sz) := by
  refine gq_meti (cc := cX0_size) (maxL := 1) (lv := [(0, .ref (ad 1))]) (by decide) rfl (Nat.le_of_ble_eq_true rfl) rfl ?_
  intro p e s m below meth c A Q ls H locs hx hb hml hown hts hnw hA hK hP hD hS hl hz
  refine lv_aload_n hx hb dX0_size_0 rfl (lv_at hl 0 rfl) ?_
  refine va_get (D := D) (ci := 0) (v := .int Ps) (C := RX0) (T := TX0) (N := 5) hx hb hts iX0_size_X0 hown hK hP 0 rfl rfl 2 (by decide) (hts (.fieldLink RX0 24 "DecoyHouse$Plan" "size" "I") (by decide +kernel)) (fun _ h9 => h9) rfl dX0_size_1 ?_
  exact hz Ps () _ _ _ _ dX0_size_4 hw hP hD hS

def wp_X0_hasPlace (p1 : Int32) (Ps : Int32) (post : Int32 → Prop) : Prop :=
  (if p1 < 0 then post 0 else (if Ps ≤ p1 then post 0 else (if 9 ≤ p1 then post 0 else post 1)))

theorem iX0_hasPlace_X0 : ∀ w ∈ wsX00, w ∈ wsX0_hasPlace := by decide +kernel
set_option maxHeartbeats 4000000 in
set_option maxRecDepth 100000 in
theorem c_X0_hasPlace (l : Launch) (D : va_G) (ad : Nat → Nat) (ck : Nat → ClassId) (sz : Nat) (Pd : Nat → Int32) (Pm : Nat → Int32) (Ps : Int32) (Pg : Int32) (Pj : Int32) (p1 : Int32) (post : Int32 → Prop) (hw : wp_X0_hasPlace p1 Ps post) : Met l yX0_hasPlace wsX0_hasPlace { frames := 0, cells := 0, slots := 0, locals := 0 } (va_Pc [.ref (ad 1), .int p1] (gq_pre D (tyP ck) (wdP ad ck Pd Pm Ps Pg Pj) sz)) (va_Qi (fun (r : Int32) (_ : Unit) => post r ) (gq_at D (va_A (wdP ad ck Pd Pm Ps Pg Pj) sz) (fun (_ : Unit) => (wdP ad ck Pd Pm Ps Pg Pj))) (va_A (wdP ad ck Pd Pm Ps Pg Pj) sz)) 0 0 (va_A (wdP ad ck Pd Pm Ps Pg Pj) sz) := by
  refine gq_metz (cc := cX0_hasPlace) (maxL := 2) (lv := [(0, .ref (ad 1)), (1, .int p1)]) (by decide) rfl (Nat.le_of_ble_eq_true rfl) rfl ?_
  intro p e s m below meth c A Q ls H locs hx hb hml hown hts hnw hA hK hP hD hS hl hz
  refine lv_iload_n hx hb dX0_hasPlace_0 rfl (lv_at hl 1 rfl) ?_
  refine lv_if_lt (tgt := 22) hx hb dX0_hasPlace_1 (by decide) (fun c1 => ?_) (fun c1 => ?_)
  · have hw := gq_t c1 hw
    refine lv_iconst (v := 0) hx hb dX0_hasPlace_22 (by decide) ?_
    exact hz 0 () _ _ _ _ dX0_hasPlace_23 gq_zb0 hw hP hD hS
  · have hw := gq_f c1 hw
    refine lv_iload_n hx hb dX0_hasPlace_4 rfl (lv_at hl 1 rfl) ?_
    refine lv_aload_n hx hb dX0_hasPlace_5 rfl (lv_at hl 0 rfl) ?_
    refine va_get (D := D) (ci := 0) (v := .int Ps) (C := RX0) (T := TX0) (N := 5) hx hb hts iX0_hasPlace_X0 hown hK hP 0 rfl rfl 2 (by decide) (hts (.fieldLink RX0 24 "DecoyHouse$Plan" "size" "I") (by decide +kernel)) (fun _ h9 => h9) rfl dX0_hasPlace_6 ?_
    refine lv_icmp_ge (tgt := 22) hx hb dX0_hasPlace_9 (by decide) (fun c2 => ?_) (fun c2 => ?_)
    · have hw := gq_t c2 hw
      refine lv_iconst (v := 0) hx hb dX0_hasPlace_22 (by decide) ?_
      exact hz 0 () _ _ _ _ dX0_hasPlace_23 gq_zb0 hw hP hD hS
    · have hw := gq_f c2 hw
      refine lv_iload_n hx hb dX0_hasPlace_12 rfl (lv_at hl 1 rfl) ?_
      refine lv_bipush (v := 9) hx hb dX0_hasPlace_13 (by decide) ?_
      refine lv_icmp_ge (tgt := 22) hx hb dX0_hasPlace_15 (by decide) (fun c3 => ?_) (fun c3 => ?_)
      · have hw := gq_t c3 hw
        refine lv_iconst (v := 0) hx hb dX0_hasPlace_22 (by decide) ?_
        exact hz 0 () _ _ _ _ dX0_hasPlace_23 gq_zb0 hw hP hD hS
      · have hw := gq_f c3 hw
        refine lv_iconst (v := 1) hx hb dX0_hasPlace_18 (by decide) ?_
        refine lv_goto (tgt := 23) hx hb dX0_hasPlace_19 (by decide) ?_
        exact hz 1 () _ _ _ _ dX0_hasPlace_23 gq_zb1 hw hP hD hS

def wp_X0_hasSet (p1 : Int32) (Ps : Int32) (post : Int32 → Prop) : Prop :=
  (if p1 < 0 then post 0 else (if 512 ≤ p1 then post 0 else (if (gq_ushr p1 Ps) = 0 then post 1 else post 0)))

theorem iX0_hasSet_X0 : ∀ w ∈ wsX00, w ∈ wsX0_hasSet := by decide +kernel
set_option maxHeartbeats 4000000 in
set_option maxRecDepth 100000 in
theorem c_X0_hasSet (l : Launch) (D : va_G) (ad : Nat → Nat) (ck : Nat → ClassId) (sz : Nat) (Pd : Nat → Int32) (Pm : Nat → Int32) (Ps : Int32) (Pg : Int32) (Pj : Int32) (p1 : Int32) (post : Int32 → Prop) (hw : wp_X0_hasSet p1 Ps post) : Met l yX0_hasSet wsX0_hasSet { frames := 0, cells := 0, slots := 0, locals := 0 } (va_Pc [.ref (ad 1), .int p1] (gq_pre D (tyP ck) (wdP ad ck Pd Pm Ps Pg Pj) sz)) (va_Qi (fun (r : Int32) (_ : Unit) => post r ) (gq_at D (va_A (wdP ad ck Pd Pm Ps Pg Pj) sz) (fun (_ : Unit) => (wdP ad ck Pd Pm Ps Pg Pj))) (va_A (wdP ad ck Pd Pm Ps Pg Pj) sz)) 0 0 (va_A (wdP ad ck Pd Pm Ps Pg Pj) sz) := by
  refine gq_metz (cc := cX0_hasSet) (maxL := 2) (lv := [(0, .ref (ad 1)), (1, .int p1)]) (by decide) rfl (Nat.le_of_ble_eq_true rfl) rfl ?_
  intro p e s m below meth c A Q ls H locs hx hb hml hown hts hnw hA hK hP hD hS hl hz
  refine lv_iload_n hx hb dX0_hasSet_0 rfl (lv_at hl 1 rfl) ?_
  refine lv_if_lt (tgt := 24) hx hb dX0_hasSet_1 (by decide) (fun c1 => ?_) (fun c1 => ?_)
  · have hw := gq_t c1 hw
    refine lv_iconst (v := 0) hx hb dX0_hasSet_24 (by decide) ?_
    exact hz 0 () _ _ _ _ dX0_hasSet_25 gq_zb0 hw hP hD hS
  · have hw := gq_f c1 hw
    refine lv_iload_n hx hb dX0_hasSet_4 rfl (lv_at hl 1 rfl) ?_
    refine lv_sipush (v := 512) hx hb dX0_hasSet_5 (by decide) ?_
    refine lv_icmp_ge (tgt := 24) hx hb dX0_hasSet_8 (by decide) (fun c2 => ?_) (fun c2 => ?_)
    · have hw := gq_t c2 hw
      refine lv_iconst (v := 0) hx hb dX0_hasSet_24 (by decide) ?_
      exact hz 0 () _ _ _ _ dX0_hasSet_25 gq_zb0 hw hP hD hS
    · have hw := gq_f c2 hw
      refine lv_iload_n hx hb dX0_hasSet_11 rfl (lv_at hl 1 rfl) ?_
      refine lv_aload_n hx hb dX0_hasSet_12 rfl (lv_at hl 0 rfl) ?_
      refine va_get (D := D) (ci := 0) (v := .int Ps) (C := RX0) (T := TX0) (N := 5) hx hb hts iX0_hasSet_X0 hown hK hP 0 rfl rfl 2 (by decide) (hts (.fieldLink RX0 24 "DecoyHouse$Plan" "size" "I") (by decide +kernel)) (fun _ h9 => h9) rfl dX0_hasSet_13 ?_
      refine lv_iushr (v := (gq_ushr p1 Ps)) hx hb dX0_hasSet_16 rfl ?_
      refine lv_if_ne (tgt := 24) hx hb dX0_hasSet_17 (by decide) (fun c3 => ?_) (fun c3 => ?_)
      · have hw := gq_f c3 hw
        refine lv_iconst (v := 0) hx hb dX0_hasSet_24 (by decide) ?_
        exact hz 0 () _ _ _ _ dX0_hasSet_25 gq_zb0 hw hP hD hS
      · have hw := gq_t c3 hw
        refine lv_iconst (v := 1) hx hb dX0_hasSet_20 (by decide) ?_
        refine lv_goto (tgt := 25) hx hb dX0_hasSet_21 (by decide) ?_
        exact hz 1 () _ _ _ _ dX0_hasSet_25 gq_zb1 hw hP hD hS

def wp_X0_doorSet (p1 : Int32) (Pd : Nat → Int32) (Ps : Int32) (post : Int32 → Prop) : Prop :=
  wp_X0_hasPlace p1 Ps (fun (r1 : Int32) => (if r1 = 0 then post 0 else vp_in p1 9 ∧ post (Pd (p1).toNatClampNeg)))

theorem iX0_doorSet_X0 : ∀ w ∈ wsX00, w ∈ wsX0_doorSet := by decide +kernel
set_option maxHeartbeats 4000000 in
set_option maxRecDepth 100000 in
theorem c_X0_doorSet (l : Launch) (D : va_G) (ad : Nat → Nat) (ck : Nat → ClassId) (sz : Nat) (Pd : Nat → Int32) (Pm : Nat → Int32) (Ps : Int32) (Pg : Int32) (Pj : Int32) (p1 : Int32) (post : Int32 → Prop) (hw : wp_X0_doorSet p1 Pd Ps post) : Met l yX0_doorSet wsX0_doorSet { frames := 1, cells := 0, slots := 0, locals := 21 } (va_Pc [.ref (ad 1), .int p1] (gq_pre D (tyP ck) (wdP ad ck Pd Pm Ps Pg Pj) sz)) (va_Qi (fun (r : Int32) (_ : Unit) => post r ) (gq_at D (va_A (wdP ad ck Pd Pm Ps Pg Pj) sz) (fun (_ : Unit) => (wdP ad ck Pd Pm Ps Pg Pj))) (va_A (wdP ad ck Pd Pm Ps Pg Pj) sz)) 0 0 (va_A (wdP ad ck Pd Pm Ps Pg Pj) sz) := by
  refine gq_meti (cc := cX0_doorSet) (maxL := 2) (lv := [(0, .ref (ad 1)), (1, .int p1)]) (by decide) rfl (Nat.le_of_ble_eq_true rfl) rfl ?_
  intro p e s m below meth c A Q ls H locs hx hb hml hown hts hnw hA hK hP hD hS hl hz
  refine lv_aload_n hx hb dX0_doorSet_0 rfl (lv_at hl 0 rfl) ?_
  refine lv_iload_n hx hb dX0_doorSet_1 rfl (lv_at hl 1 rfl) ?_
  refine gq_calli (wsN := fun _ => (wdP ad ck Pd Pm Ps Pg Pj)) (va_runV (As := [.int p1]) (rest := []) ⟨hx, hb, hml, hown, hts⟩ (c_X0_hasPlace l D ad ck H.size Pd Pm Ps Pg Pj p1 _ hw) (cwV 1 hts gX0_doorSet_X0_hasPlace rfl rfl rfl (by decide +kernel) ⟨Nat.le_of_ble_eq_true rfl, Nat.le_of_ble_eq_true rfl⟩) (gq_preV hK [0, 1] rfl hP hD [0, 1, 2] rfl rfl hnw 0 0 rfl rfl) rfl rfl hl.1 rfl (lv_room (Nat.le_of_ble_eq_true rfl)) dX0_doorSet_2 ⟨Nat.zero_le _, Nat.zero_le _⟩) hP hD hS hA [0, 1, 2] [] rfl rfl rfl (by decide) [0, 1, 2] rfl (fun _ => rfl) (fun r1 _ H locs hw hP hD hS => ?_)
  refine lv_if_eq (tgt := 17) hx hb dX0_doorSet_5 (by decide) (fun c2 => ?_) (fun c2 => ?_)
  · have hw := gq_t c2 hw
    refine lv_iconst (v := 0) hx hb dX0_doorSet_17 (by decide) ?_
    exact hz 0 () _ _ _ _ dX0_doorSet_18 hw hP hD hS
  · have hw := gq_f c2 hw
    refine lv_aload_n hx hb dX0_doorSet_8 rfl (lv_at hl 0 rfl) ?_
    refine va_get (D := D) (ci := 0) (v := .ref (ad 2)) (C := RX0) (T := TX0) (N := 5) hx hb hts iX0_doorSet_X0 hown hK hP 0 rfl rfl 0 (by decide) (hts (.fieldLink RX0 9 "DecoyHouse$Plan" "doorsFrom" "[I") (by decide +kernel)) (fun _ h9 => h9) rfl dX0_doorSet_9 ?_
    refine lv_iload_n hx hb dX0_doorSet_12 rfl (lv_at hl 1 rfl) ?_
    refine va_iald hx hb hK hP 1 0 rfl rfl hw.1 dX0_doorSet_13 ?_
    have hw := hw.2
    refine lv_goto (tgt := 18) hx hb dX0_doorSet_14 (by decide) ?_
    exact hz (Pd (p1).toNatClampNeg) () _ _ _ _ dX0_doorSet_18 hw hP hD hS

def wp_X0_hasDoor (p1 : Int32) (p2 : Int32) (Pd : Nat → Int32) (Ps : Int32) (post : Int32 → Prop) : Prop :=
  wp_X0_doorSet p1 Pd Ps (fun (r1 : Int32) => wp_X4_has r1 p2 (fun (r2 : Int32) => gq_zb r2 ∧ post r2))

set_option maxHeartbeats 4000000 in
set_option maxRecDepth 100000 in
theorem c_X0_hasDoor (l : Launch) (D : va_G) (ad : Nat → Nat) (ck : Nat → ClassId) (sz : Nat) (Pd : Nat → Int32) (Pm : Nat → Int32) (Ps : Int32) (Pg : Int32) (Pj : Int32) (p1 : Int32) (p2 : Int32) (post : Int32 → Prop) (hw : wp_X0_hasDoor p1 p2 Pd Ps post) : Met l yX0_hasDoor wsX0_hasDoor { frames := 2, cells := 0, slots := 0, locals := 42 } (va_Pc [.ref (ad 1), .int p1, .int p2] (gq_pre D (tyP ck) (wdP ad ck Pd Pm Ps Pg Pj) sz)) (va_Qi (fun (r : Int32) (_ : Unit) => post r ) (gq_at D (va_A (wdP ad ck Pd Pm Ps Pg Pj) sz) (fun (_ : Unit) => (wdP ad ck Pd Pm Ps Pg Pj))) (va_A (wdP ad ck Pd Pm Ps Pg Pj) sz)) 0 0 (va_A (wdP ad ck Pd Pm Ps Pg Pj) sz) := by
  refine gq_metz (cc := cX0_hasDoor) (maxL := 3) (lv := [(0, .ref (ad 1)), (1, .int p1), (2, .int p2)]) (by decide) rfl (Nat.le_of_ble_eq_true rfl) rfl ?_
  intro p e s m below meth c A Q ls H locs hx hb hml hown hts hnw hA hK hP hD hS hl hz
  refine lv_aload_n hx hb dX0_hasDoor_0 rfl (lv_at hl 0 rfl) ?_
  refine lv_iload_n hx hb dX0_hasDoor_1 rfl (lv_at hl 1 rfl) ?_
  refine gq_calli (wsN := fun _ => (wdP ad ck Pd Pm Ps Pg Pj)) (va_runV (As := [.int p1]) (rest := []) ⟨hx, hb, hml, hown, hts⟩ (c_X0_doorSet l D ad ck H.size Pd Pm Ps Pg Pj p1 _ hw) (cwV 1 hts gX0_hasDoor_X0_doorSet rfl rfl rfl (by decide +kernel) ⟨Nat.le_of_ble_eq_true rfl, Nat.le_of_ble_eq_true rfl⟩) (gq_preV hK [0, 1] rfl hP hD [0, 1, 2] rfl rfl hnw 0 0 rfl rfl) rfl rfl hl.1 rfl (lv_room (Nat.le_of_ble_eq_true rfl)) dX0_hasDoor_2 ⟨Nat.zero_le _, Nat.zero_le _⟩) hP hD hS hA [0, 1, 2] [] rfl rfl rfl (by decide) [0, 1, 2] rfl (fun _ => rfl) (fun r1 _ H locs hw hP hD hS => ?_)
  refine lv_iload_n hx hb dX0_hasDoor_5 rfl (lv_at hl 2 rfl) ?_
  refine gq_calli (wsN := fun _ => (wdP ad ck Pd Pm Ps Pg Pj)) (va_runSN (As := [.int r1, .int p2]) (rest := []) ⟨hx, hb, hml, hown, hts⟩ (c_X4_has l D H.size r1 p2 _ hw) ⟨va_cnB 2 hts gX0_hasDoor_X4_has_n38 rfl rfl rfl (hnw _ (List.mem_of_getElem? (i := 4) rfl)) (hts (.initialized RX4) (by decide +kernel)) (by decide +kernel) ⟨Nat.le_of_ble_eq_true rfl, Nat.le_of_ble_eq_true rfl⟩, hts (.static yX4_has) (by decide +kernel), trivial⟩ (gq_preS hK [] rfl hP hD [] rfl rfl hnw) rfl rfl hl.1 rfl (lv_room (Nat.le_of_ble_eq_true rfl)) dX0_hasDoor_6 ⟨Nat.zero_le _, Nat.zero_le _⟩) hP hD hS hA [] [0, 1, 2] rfl rfl rfl (by decide) [0, 1, 2] rfl (fun _ => rfl) (fun r2 _ H locs hw hP hD hS => ?_)
  exact hz r2 () _ _ _ _ dX0_hasDoor_9 hw.1 hw.2 hP hD hS

def wp_X0_turnDoor (p1 : Int32) (p2 : Int32) (Pd : Nat → Int32) (Ps : Int32) (post : (Nat → Int32) → Prop) : Prop :=
  wp_X0_hasPlace p1 Ps (fun (r1 : Int32) => (if r1 = 0 then post Pd else wp_X0_hasPlace p2 Ps (fun (r3 : Int32) => (if r3 = 0 then post Pd else vp_in p1 9 ∧ wp_X4_setOf p2 (fun (r5 : Int32) => vp_in p1 9 ∧ gq_nm (upd Pd (p1).toNatClampNeg ((Pd (p1).toNatClampNeg) ^^^ r5)) (fun Pd_6 : Nat → Int32 => post Pd_6))))))

theorem iX0_turnDoor_X0 : ∀ w ∈ wsX00, w ∈ wsX0_turnDoor := by decide +kernel
set_option maxHeartbeats 4000000 in
set_option maxRecDepth 100000 in
theorem c_X0_turnDoor (l : Launch) (D : va_G) (ad : Nat → Nat) (ck : Nat → ClassId) (sz : Nat) (Pd : Nat → Int32) (Pm : Nat → Int32) (Ps : Int32) (Pg : Int32) (Pj : Int32) (p1 : Int32) (p2 : Int32) (post : (Nat → Int32) → Prop) (hw : wp_X0_turnDoor p1 p2 Pd Ps post) : Met l yX0_turnDoor wsX0_turnDoor { frames := 1, cells := 0, slots := 0, locals := 21 } (va_Pc [.ref (ad 1), .int p1, .int p2] (gq_pre D (tyP ck) (wdP ad ck Pd Pm Ps Pg Pj) sz)) (va_Qv (fun (u : (Nat → Int32)) => post u) (gq_at D (va_A (wdP ad ck Pd Pm Ps Pg Pj) sz) (fun (u : (Nat → Int32)) => (wdP ad ck u Pm Ps Pg Pj))) (va_A (wdP ad ck Pd Pm Ps Pg Pj) sz)) 0 0 (va_A (wdP ad ck Pd Pm Ps Pg Pj) sz) := by
  refine gq_metv (cc := cX0_turnDoor) (maxL := 3) (lv := [(0, .ref (ad 1)), (1, .int p1), (2, .int p2)]) (by decide) rfl (Nat.le_of_ble_eq_true rfl) rfl ?_
  intro p e s m below meth c A Q ls H locs hx hb hml hown hts hnw hA hK hP hD hS hl hz
  refine lv_aload_n hx hb dX0_turnDoor_0 rfl (lv_at hl 0 rfl) ?_
  refine lv_iload_n hx hb dX0_turnDoor_1 rfl (lv_at hl 1 rfl) ?_
  refine gq_calli (wsN := fun _ => (wdP ad ck Pd Pm Ps Pg Pj)) (va_runV (As := [.int p1]) (rest := []) ⟨hx, hb, hml, hown, hts⟩ (c_X0_hasPlace l D ad ck H.size Pd Pm Ps Pg Pj p1 _ hw) (cwV 1 hts gX0_turnDoor_X0_hasPlace rfl rfl rfl (by decide +kernel) ⟨Nat.le_of_ble_eq_true rfl, Nat.le_of_ble_eq_true rfl⟩) (gq_preV hK [0, 1] rfl hP hD [0, 1, 2] rfl rfl hnw 0 0 rfl rfl) rfl rfl hl.1 rfl (lv_room (Nat.le_of_ble_eq_true rfl)) dX0_turnDoor_2 ⟨Nat.zero_le _, Nat.zero_le _⟩) hP hD hS hA [0, 1, 2] [] rfl rfl rfl (by decide) [0, 1, 2] rfl (fun _ => rfl) (fun r1 _ H locs hw hP hD hS => ?_)
  refine lv_if_eq (tgt := 29) hx hb dX0_turnDoor_5 (by decide) (fun c2 => ?_) (fun c2 => ?_)
  · have hw := gq_t c2 hw
    exact hz Pd _ _ _ _ dX0_turnDoor_29 hw hP hD hS
  · have hw := gq_f c2 hw
    refine lv_aload_n hx hb dX0_turnDoor_8 rfl (lv_at hl 0 rfl) ?_
    refine lv_iload_n hx hb dX0_turnDoor_9 rfl (lv_at hl 2 rfl) ?_
    refine gq_calli (wsN := fun _ => (wdP ad ck Pd Pm Ps Pg Pj)) (va_runV (As := [.int p2]) (rest := []) ⟨hx, hb, hml, hown, hts⟩ (c_X0_hasPlace l D ad ck H.size Pd Pm Ps Pg Pj p2 _ hw) (cwV 1 hts gX0_turnDoor_X0_hasPlace rfl rfl rfl (by decide +kernel) ⟨Nat.le_of_ble_eq_true rfl, Nat.le_of_ble_eq_true rfl⟩) (gq_preV hK [0, 1] rfl hP hD [0, 1, 2] rfl rfl hnw 0 0 rfl rfl) rfl rfl hl.1 rfl (lv_room (Nat.le_of_ble_eq_true rfl)) dX0_turnDoor_10 ⟨Nat.zero_le _, Nat.zero_le _⟩) hP hD hS hA [0, 1, 2] [] rfl rfl rfl (by decide) [0, 1, 2] rfl (fun _ => rfl) (fun r3 _ H locs hw hP hD hS => ?_)
    refine lv_if_eq (tgt := 29) hx hb dX0_turnDoor_13 (by decide) (fun c4 => ?_) (fun c4 => ?_)
    · have hw := gq_t c4 hw
      exact hz Pd _ _ _ _ dX0_turnDoor_29 hw hP hD hS
    · have hw := gq_f c4 hw
      refine lv_aload_n hx hb dX0_turnDoor_16 rfl (lv_at hl 0 rfl) ?_
      refine va_get (D := D) (ci := 0) (v := .ref (ad 2)) (C := RX0) (T := TX0) (N := 5) hx hb hts iX0_turnDoor_X0 hown hK hP 0 rfl rfl 0 (by decide) (hts (.fieldLink RX0 9 "DecoyHouse$Plan" "doorsFrom" "[I") (by decide +kernel)) (fun _ h9 => h9) rfl dX0_turnDoor_17 ?_
      refine lv_iload_n hx hb dX0_turnDoor_20 rfl (lv_at hl 1 rfl) ?_
      refine lv_dup2_11 hx hb dX0_turnDoor_21 rfl rfl ?_
      refine va_iald hx hb hK hP 1 0 rfl rfl hw.1 dX0_turnDoor_22 ?_
      have hw := hw.2
      refine lv_iload_n hx hb dX0_turnDoor_23 rfl (lv_at hl 2 rfl) ?_
      refine gq_calli (wsN := fun _ => (wdP ad ck Pd Pm Ps Pg Pj)) (va_runSN (As := [.int p2]) (rest := [.int (Pd (p1).toNatClampNeg), .int p1, .ref (ad 2)]) ⟨hx, hb, hml, hown, hts⟩ (c_X4_setOf l D H.size p2 _ hw) ⟨va_cnB 1 hts gX0_turnDoor_X4_setOf_n46 rfl rfl rfl (hnw _ (List.mem_of_getElem? (i := 5) rfl)) (hts (.initialized RX4) (by decide +kernel)) (by decide +kernel) ⟨Nat.le_of_ble_eq_true rfl, Nat.le_of_ble_eq_true rfl⟩, hts (.static yX4_setOf) (by decide +kernel), trivial⟩ (gq_preS hK [] rfl hP hD [] rfl rfl hnw) rfl rfl hl.1 rfl (lv_room (Nat.le_of_ble_eq_true rfl)) dX0_turnDoor_24 ⟨Nat.zero_le _, Nat.zero_le _⟩) hP hD hS hA [] [0, 1, 2] rfl rfl rfl (by decide) [0, 1, 2] rfl (fun _ => rfl) (fun r5 _ H locs hw hP hD hS => ?_)
      refine lv_ixor hx hb dX0_turnDoor_27 ?_
      refine va_iast hx hb hK hP hD hS 1 0 rfl rfl hw.1 dX0_turnDoor_28 (fun H locs hP hD hS => ?_)
      obtain ⟨Pd_6, ePd_6⟩ : ∃ y : Nat → Int32, y = upd Pd (p1).toNatClampNeg ((Pd (p1).toNatClampNeg) ^^^ r5) := ⟨_, rfl⟩
      have hw := gq_at1 hw.2 ePd_6
      have hP : va_P D vwCl (wdP ad ck Pd_6 Pm Ps Pg Pj) H := by rw [ePd_6]; exact hP
      have hD : va_D A (wdP ad ck Pd_6 Pm Ps Pg Pj) := by rw [ePd_6]; exact hD
      exact hz Pd_6 _ _ _ _ dX0_turnDoor_29 hw hP hD hS

def wl_X0_countDoors_13 (Pd : Nat → Int32)   (post : Int32 → Prop) : Nat → Int32 → Int32 → Prop
  | 0, _, _ => False
  | n13 + 1, x1, x2 => (if 9 ≤ x2 then post x1 else vp_in x2 9 ∧ gq_nm (Pd (x2).toNatClampNeg) (fun v4 : Int32 => wp_J6_bitCount_0f7a4 v4 (fun (r5 : Int32) => gq_nm (x1 + r5) (fun v6 : Int32 => gq_nm (x2 + 1) (fun v7 : Int32 => wl_X0_countDoors_13 Pd post n13 v6 v7)))))

def wp_X0_countDoors  (Pd : Nat → Int32) (post : Int32 → Prop) : Prop :=
  ∃ k13, wl_X0_countDoors_13 Pd post k13 0 0

theorem iX0_countDoors_X0 : ∀ w ∈ wsX00, w ∈ wsX0_countDoors := by decide +kernel
set_option maxHeartbeats 4000000 in
set_option maxRecDepth 100000 in
theorem c_X0_countDoors (l : Launch) (D : va_G) (ad : Nat → Nat) (ck : Nat → ClassId) (sz : Nat) (Pd : Nat → Int32) (Pm : Nat → Int32) (Ps : Int32) (Pg : Int32) (Pj : Int32)  (post : Int32 → Prop) (hw : wp_X0_countDoors Pd post) : Met l yX0_countDoors wsX0_countDoors { frames := 1, cells := 0, slots := 0, locals := 20 } (va_Pc [.ref (ad 1)] (gq_pre D (tyP ck) (wdP ad ck Pd Pm Ps Pg Pj) sz)) (va_Qi (fun (r : Int32) (_ : Unit) => post r ) (gq_at D (va_A (wdP ad ck Pd Pm Ps Pg Pj) sz) (fun (_ : Unit) => (wdP ad ck Pd Pm Ps Pg Pj))) (va_A (wdP ad ck Pd Pm Ps Pg Pj) sz)) 0 0 (va_A (wdP ad ck Pd Pm Ps Pg Pj) sz) := by
  refine gq_meti (cc := cX0_countDoors) (maxL := 6) (lv := [(0, .ref (ad 1))]) (by decide) rfl (Nat.le_of_ble_eq_true rfl) rfl ?_
  intro p e s m below meth c A Q ls H locs hx hb hml hown hts hnw hA hK hP hD hS hl hz
  refine lv_iconst (v := 0) hx hb dX0_countDoors_0 (by decide) ?_
  refine lv_istore_n (lv' := [(1, .int 0), (0, .ref (ad 1))]) hx hb dX0_countDoors_1 rfl hl (by decide) rfl (fun ls hl => ?_)
  refine lv_aload_n hx hb dX0_countDoors_2 rfl (lv_at hl 1 rfl) ?_
  refine va_get (D := D) (ci := 0) (v := .ref (ad 2)) (C := RX0) (T := TX0) (N := 5) hx hb hts iX0_countDoors_X0 hown hK hP 0 rfl rfl 0 (by decide) (hts (.fieldLink RX0 9 "DecoyHouse$Plan" "doorsFrom" "[I") (by decide +kernel)) (fun _ h9 => h9) rfl dX0_countDoors_3 ?_
  refine lv_astore_n (lv' := [(2, .ref (ad 2)), (1, .int 0), (0, .ref (ad 1))]) hx hb dX0_countDoors_6 rfl hl (by decide) rfl (fun ls hl => ?_)
  refine lv_aload_n hx hb dX0_countDoors_7 rfl (lv_at hl 0 rfl) ?_
  refine va_alen (v := 9) hx hb hK hP 1 0 rfl rfl rfl dX0_countDoors_8 ?_
  refine lv_istore_n (lv' := [(3, .int 9), (2, .ref (ad 2)), (1, .int 0), (0, .ref (ad 1))]) hx hb dX0_countDoors_9 rfl hl (by decide) rfl (fun ls hl => ?_)
  refine lv_iconst (v := 0) hx hb dX0_countDoors_10 (by decide) ?_
  refine lv_istore (lv' := [(4, .int 0), (3, .int 9), (2, .ref (ad 2)), (1, .int 0), (0, .ref (ad 1))]) hx hb dX0_countDoors_11 hl (by decide) rfl (fun ls hl => ?_)
  have hL13 : ∀ (n : Nat) (x1 : Int32) (x2 : Int32) (H : Heap) (locs : List Loc), wl_X0_countDoors_13 Pd post n x1 x2 → va_P D vwCl (wdP ad ck Pd Pm Ps Pg Pj) H → va_D A (wdP ad ck Pd Pm Ps Pg Pj) → va_S A s.heap H locs → ∀ ls : Array Slot, lv_has ls 6 [(0, .ref (ad 1)), (1, .int x1), (2, .ref (ad 2)), (3, .int 9), (4, .int x2)] → W p l e { frames := 1, cells := 0, slots := 0, locals := 20 } s m ([.ref (ad 1)] : List Value).toArray below meth c H locs 0 0 Q (F0 m 13 ls []) := by
    intro n
    induction n with
    | zero =>
      intro x1 x2 H locs hw
      exact hw.elim
    | succ n ih =>
      intro x1 x2 H locs hw hP hD hS ls hl
      refine lv_iload hx hb dX0_countDoors_13 (lv_at hl 4 rfl) ?_
      refine lv_iload_n hx hb dX0_countDoors_15 rfl (lv_at hl 3 rfl) ?_
      refine lv_icmp_ge (tgt := 39) hx hb dX0_countDoors_16 (by decide) (fun c3 => ?_) (fun c3 => ?_)
      · have hw := gq_t c3 hw
        refine lv_iload_n hx hb dX0_countDoors_39 rfl (lv_at hl 1 rfl) ?_
        exact hz x1 () _ _ _ _ dX0_countDoors_40 hw hP hD hS
      · have hw := gq_f c3 hw
        refine lv_aload_n hx hb dX0_countDoors_19 rfl (lv_at hl 2 rfl) ?_
        refine lv_iload hx hb dX0_countDoors_20 (lv_at hl 4 rfl) ?_
        refine va_iald hx hb hK hP 1 0 rfl rfl hw.1 dX0_countDoors_22 ?_
        have hw := hw.2
        refine lv_topi (fun v4 ev4 => ?_)
        have hw := gq_at1 hw ev4
        refine lv_istore (lv' := [(5, .int v4), (0, .ref (ad 1)), (1, .int x1), (2, .ref (ad 2)), (3, .int 9), (4, .int x2)]) hx hb dX0_countDoors_23 hl (by decide) rfl (fun ls hl => ?_)
        refine lv_iload_n hx hb dX0_countDoors_25 rfl (lv_at hl 2 rfl) ?_
        refine lv_iload hx hb dX0_countDoors_26 (lv_at hl 0 rfl) ?_
        refine gq_calli (wsN := fun _ => (wdP ad ck Pd Pm Ps Pg Pj)) (va_runS (As := [.int v4]) (rest := [.int x1]) ⟨hx, hb, hml, hown, hts⟩ (c_J6_bitCount_0f7a4 l D H.size v4 _ hw) (va_cwS 1 hts gX0_countDoors_J6_bitCount_0f7a4 rfl rfl rfl (by decide +kernel) ⟨Nat.le_of_ble_eq_true rfl, Nat.le_of_ble_eq_true rfl⟩) (gq_preS hK [] rfl hP hD [] rfl rfl hnw) rfl rfl hl.1 rfl (lv_room (Nat.le_of_ble_eq_true rfl)) dX0_countDoors_28 ⟨Nat.zero_le _, Nat.zero_le _⟩) hP hD hS hA [] [0, 1, 2] rfl rfl rfl (by decide) [0, 1, 2] rfl (fun _ => rfl) (fun r5 _ H locs hw hP hD hS => ?_)
        refine lv_iadd hx hb dX0_countDoors_31 ?_
        refine lv_topi (fun v6 ev6 => ?_)
        have hw := gq_at1 hw ev6
        refine lv_istore_n (lv' := [(1, .int v6), (5, .int v4), (0, .ref (ad 1)), (2, .ref (ad 2)), (3, .int 9), (4, .int x2)]) hx hb dX0_countDoors_32 rfl hl (by decide) rfl (fun ls hl => ?_)
        obtain ⟨v7, ev7⟩ : ∃ y : Int32, y = x2 + 1 := ⟨_, rfl⟩
        have hw := gq_at1 hw ev7
        refine lv_iinc (v := v7) (lv' := [(4, .int v7), (1, .int v6), (5, .int v4), (0, .ref (ad 1)), (2, .ref (ad 2)), (3, .int 9)]) hx hb dX0_countDoors_33 hl (k := 5) rfl (by rw [ev7]; rfl) (by decide) rfl (fun ls hl => ?_)
        refine lv_goto (tgt := 13) hx hb dX0_countDoors_36 (by decide) ?_
        exact ih v6 v7 _ _ hw hP hD hS ls (lv_sub hl [3, 1, 4, 5, 0] rfl)
  obtain ⟨n, hw⟩ := hw
  exact hL13 n 0 0 _ _ hw hP hD hS ls (lv_sub hl [4, 3, 2, 1, 0] rfl)

def wp_X0_setKind (p1 : Int32) (p2 : Int32) (Pg : Int32) (Pj : Int32) (post : Int32 → Int32 → Prop) : Prop :=
  wp_X4_setOf p1 (fun (r1 : Int32) => (if p2 = 1 then gq_nm (Pg ||| r1) (fun v7 : Int32 => (if p2 = 2 then gq_nm (Pj ||| r1) (fun v10 : Int32 => post v7 v10) else gq_nm (Pj &&& (r1 ^^^ (-1))) (fun v9 : Int32 => post v7 v9))) else gq_nm (Pg &&& (r1 ^^^ (-1))) (fun v3 : Int32 => (if p2 = 2 then gq_nm (Pj ||| r1) (fun v6 : Int32 => post v3 v6) else gq_nm (Pj &&& (r1 ^^^ (-1))) (fun v5 : Int32 => post v3 v5)))))

theorem iX0_setKind_X0 : ∀ w ∈ wsX00, w ∈ wsX0_setKind := by decide +kernel
set_option maxHeartbeats 4000000 in
set_option maxRecDepth 100000 in
theorem c_X0_setKind (l : Launch) (D : va_G) (ad : Nat → Nat) (ck : Nat → ClassId) (sz : Nat) (Pd : Nat → Int32) (Pm : Nat → Int32) (Ps : Int32) (Pg : Int32) (Pj : Int32) (p1 : Int32) (p2 : Int32) (post : Int32 → Int32 → Prop) (hw : wp_X0_setKind p1 p2 Pg Pj post) : Met l yX0_setKind wsX0_setKind { frames := 1, cells := 0, slots := 0, locals := 20 } (va_Pc [.ref (ad 1), .int p1, .int p2] (gq_pre D (tyP ck) (wdP ad ck Pd Pm Ps Pg Pj) sz)) (va_Qv (fun (u : Int32 × Int32) => post u.1 u.2) (gq_at D (va_A (wdP ad ck Pd Pm Ps Pg Pj) sz) (fun (u : Int32 × Int32) => (wdP ad ck Pd Pm Ps u.1 u.2))) (va_A (wdP ad ck Pd Pm Ps Pg Pj) sz)) 0 0 (va_A (wdP ad ck Pd Pm Ps Pg Pj) sz) := by
  refine gq_metv (cc := cX0_setKind) (maxL := 4) (lv := [(0, .ref (ad 1)), (1, .int p1), (2, .int p2)]) (by decide) rfl (Nat.le_of_ble_eq_true rfl) rfl ?_
  intro p e s m below meth c A Q ls H locs hx hb hml hown hts hnw hA hK hP hD hS hl hz
  refine lv_iload_n hx hb dX0_setKind_0 rfl (lv_at hl 1 rfl) ?_
  refine gq_calli (wsN := fun _ => (wdP ad ck Pd Pm Ps Pg Pj)) (va_runSN (As := [.int p1]) (rest := []) ⟨hx, hb, hml, hown, hts⟩ (c_X4_setOf l D H.size p1 _ hw) ⟨va_cnB 1 hts gX0_setKind_X4_setOf_n46 rfl rfl rfl (hnw _ (List.mem_of_getElem? (i := 5) rfl)) (hts (.initialized RX4) (by decide +kernel)) (by decide +kernel) ⟨Nat.le_of_ble_eq_true rfl, Nat.le_of_ble_eq_true rfl⟩, hts (.static yX4_setOf) (by decide +kernel), trivial⟩ (gq_preS hK [] rfl hP hD [] rfl rfl hnw) rfl rfl hl.1 rfl (lv_room (Nat.le_of_ble_eq_true rfl)) dX0_setKind_1 ⟨Nat.zero_le _, Nat.zero_le _⟩) hP hD hS hA [] [0, 1, 2] rfl rfl rfl (by decide) [0, 1, 2] rfl (fun _ => rfl) (fun r1 _ H locs hw hP hD hS => ?_)
  refine lv_istore_n (lv' := [(3, .int r1), (0, .ref (ad 1)), (1, .int p1), (2, .int p2)]) hx hb dX0_setKind_4 rfl hl (by decide) rfl (fun ls hl => ?_)
  refine lv_aload_n hx hb dX0_setKind_5 rfl (lv_at hl 1 rfl) ?_
  refine lv_iload_n hx hb dX0_setKind_6 rfl (lv_at hl 3 rfl) ?_
  refine lv_iconst (v := 1) hx hb dX0_setKind_7 (by decide) ?_
  refine lv_icmp_ne (tgt := 20) hx hb dX0_setKind_8 (by decide) (fun c2 => ?_) (fun c2 => ?_)
  · have hw := gq_f c2 hw
    refine lv_aload_n hx hb dX0_setKind_20 rfl (lv_at hl 1 rfl) ?_
    refine va_get (D := D) (ci := 0) (v := .int Pg) (C := RX0) (T := TX0) (N := 5) hx hb hts iX0_setKind_X0 hown hK hP 0 rfl rfl 3 (by decide) (hts (.fieldLink RX0 28 "DecoyHouse$Plan" "gates" "I") (by decide +kernel)) (fun _ h9 => h9) rfl dX0_setKind_21 ?_
    refine lv_iload_n hx hb dX0_setKind_24 rfl (lv_at hl 0 rfl) ?_
    refine lv_iconst (v := (-1)) hx hb dX0_setKind_25 (by decide) ?_
    refine lv_ixor hx hb dX0_setKind_26 ?_
    refine lv_iand hx hb dX0_setKind_27 ?_
    refine lv_topi (fun v3 ev3 => ?_)
    have hw := gq_at1 hw ev3
    refine va_put (D := D) (ci := 0) (v := .int v3) (ty := .int) (C := RX0) (T := TX0) (N := 5) hx hb hts iX0_setKind_X0 tyX0 tyX0_ok nmX0 hown hK hP hD hS 0 rfl rfl 3 (by decide) (hts (.fieldLink RX0 28 "DecoyHouse$Plan" "gates" "I") (by decide +kernel)) (fun _ h9 => h9) rfl (by decide +kernel) rfl rfl (Nat.le_of_ble_eq_true rfl) dX0_setKind_28 (fun H locs hP hD hS => ?_)
    have hP : va_P D vwCl (wdP ad ck Pd Pm Ps v3 Pj) H := hP
    have hD : va_D A (wdP ad ck Pd Pm Ps v3 Pj) := hD
    refine lv_aload_n hx hb dX0_setKind_31 rfl (lv_at hl 1 rfl) ?_
    refine lv_iload_n hx hb dX0_setKind_32 rfl (lv_at hl 3 rfl) ?_
    refine lv_iconst (v := 2) hx hb dX0_setKind_33 (by decide) ?_
    refine lv_icmp_ne (tgt := 46) hx hb dX0_setKind_34 (by decide) (fun c4 => ?_) (fun c4 => ?_)
    · have hw := gq_f c4 hw
      refine lv_aload_n hx hb dX0_setKind_46 rfl (lv_at hl 1 rfl) ?_
      refine va_get (D := D) (ci := 0) (v := .int Pj) (C := RX0) (T := TX0) (N := 5) hx hb hts iX0_setKind_X0 hown hK hP 0 rfl rfl 4 (by decide) (hts (.fieldLink RX0 31 "DecoyHouse$Plan" "jewels" "I") (by decide +kernel)) (fun _ h9 => h9) rfl dX0_setKind_47 ?_
      refine lv_iload_n hx hb dX0_setKind_50 rfl (lv_at hl 0 rfl) ?_
      refine lv_iconst (v := (-1)) hx hb dX0_setKind_51 (by decide) ?_
      refine lv_ixor hx hb dX0_setKind_52 ?_
      refine lv_iand hx hb dX0_setKind_53 ?_
      refine lv_topi (fun v5 ev5 => ?_)
      have hw := gq_at1 hw ev5
      refine va_put (D := D) (ci := 0) (v := .int v5) (ty := .int) (C := RX0) (T := TX0) (N := 5) hx hb hts iX0_setKind_X0 tyX0 tyX0_ok nmX0 hown hK hP hD hS 0 rfl rfl 4 (by decide) (hts (.fieldLink RX0 31 "DecoyHouse$Plan" "jewels" "I") (by decide +kernel)) (fun _ h9 => h9) rfl (by decide +kernel) rfl rfl (Nat.le_of_ble_eq_true rfl) dX0_setKind_54 (fun H locs hP hD hS => ?_)
      have hP : va_P D vwCl (wdP ad ck Pd Pm Ps v3 v5) H := hP
      have hD : va_D A (wdP ad ck Pd Pm Ps v3 v5) := hD
      exact hz (v3, v5) _ _ _ _ dX0_setKind_57 hw hP hD hS
    · have hw := gq_t c4 hw
      refine lv_aload_n hx hb dX0_setKind_37 rfl (lv_at hl 1 rfl) ?_
      refine va_get (D := D) (ci := 0) (v := .int Pj) (C := RX0) (T := TX0) (N := 5) hx hb hts iX0_setKind_X0 hown hK hP 0 rfl rfl 4 (by decide) (hts (.fieldLink RX0 31 "DecoyHouse$Plan" "jewels" "I") (by decide +kernel)) (fun _ h9 => h9) rfl dX0_setKind_38 ?_
      refine lv_iload_n hx hb dX0_setKind_41 rfl (lv_at hl 0 rfl) ?_
      refine lv_ior hx hb dX0_setKind_42 ?_
      refine lv_goto (tgt := 54) hx hb dX0_setKind_43 (by decide) ?_
      refine lv_topi (fun v6 ev6 => ?_)
      have hw := gq_at1 hw ev6
      refine va_put (D := D) (ci := 0) (v := .int v6) (ty := .int) (C := RX0) (T := TX0) (N := 5) hx hb hts iX0_setKind_X0 tyX0 tyX0_ok nmX0 hown hK hP hD hS 0 rfl rfl 4 (by decide) (hts (.fieldLink RX0 31 "DecoyHouse$Plan" "jewels" "I") (by decide +kernel)) (fun _ h9 => h9) rfl (by decide +kernel) rfl rfl (Nat.le_of_ble_eq_true rfl) dX0_setKind_54 (fun H locs hP hD hS => ?_)
      have hP : va_P D vwCl (wdP ad ck Pd Pm Ps v3 v6) H := hP
      have hD : va_D A (wdP ad ck Pd Pm Ps v3 v6) := hD
      exact hz (v3, v6) _ _ _ _ dX0_setKind_57 hw hP hD hS
  · have hw := gq_t c2 hw
    refine lv_aload_n hx hb dX0_setKind_11 rfl (lv_at hl 1 rfl) ?_
    refine va_get (D := D) (ci := 0) (v := .int Pg) (C := RX0) (T := TX0) (N := 5) hx hb hts iX0_setKind_X0 hown hK hP 0 rfl rfl 3 (by decide) (hts (.fieldLink RX0 28 "DecoyHouse$Plan" "gates" "I") (by decide +kernel)) (fun _ h9 => h9) rfl dX0_setKind_12 ?_
    refine lv_iload_n hx hb dX0_setKind_15 rfl (lv_at hl 0 rfl) ?_
    refine lv_ior hx hb dX0_setKind_16 ?_
    refine lv_goto (tgt := 28) hx hb dX0_setKind_17 (by decide) ?_
    refine lv_topi (fun v7 ev7 => ?_)
    have hw := gq_at1 hw ev7
    refine va_put (D := D) (ci := 0) (v := .int v7) (ty := .int) (C := RX0) (T := TX0) (N := 5) hx hb hts iX0_setKind_X0 tyX0 tyX0_ok nmX0 hown hK hP hD hS 0 rfl rfl 3 (by decide) (hts (.fieldLink RX0 28 "DecoyHouse$Plan" "gates" "I") (by decide +kernel)) (fun _ h9 => h9) rfl (by decide +kernel) rfl rfl (Nat.le_of_ble_eq_true rfl) dX0_setKind_28 (fun H locs hP hD hS => ?_)
    have hP : va_P D vwCl (wdP ad ck Pd Pm Ps v7 Pj) H := hP
    have hD : va_D A (wdP ad ck Pd Pm Ps v7 Pj) := hD
    refine lv_aload_n hx hb dX0_setKind_31 rfl (lv_at hl 1 rfl) ?_
    refine lv_iload_n hx hb dX0_setKind_32 rfl (lv_at hl 3 rfl) ?_
    refine lv_iconst (v := 2) hx hb dX0_setKind_33 (by decide) ?_
    refine lv_icmp_ne (tgt := 46) hx hb dX0_setKind_34 (by decide) (fun c8 => ?_) (fun c8 => ?_)
    · have hw := gq_f c8 hw
      refine lv_aload_n hx hb dX0_setKind_46 rfl (lv_at hl 1 rfl) ?_
      refine va_get (D := D) (ci := 0) (v := .int Pj) (C := RX0) (T := TX0) (N := 5) hx hb hts iX0_setKind_X0 hown hK hP 0 rfl rfl 4 (by decide) (hts (.fieldLink RX0 31 "DecoyHouse$Plan" "jewels" "I") (by decide +kernel)) (fun _ h9 => h9) rfl dX0_setKind_47 ?_
      refine lv_iload_n hx hb dX0_setKind_50 rfl (lv_at hl 0 rfl) ?_
      refine lv_iconst (v := (-1)) hx hb dX0_setKind_51 (by decide) ?_
      refine lv_ixor hx hb dX0_setKind_52 ?_
      refine lv_iand hx hb dX0_setKind_53 ?_
      refine lv_topi (fun v9 ev9 => ?_)
      have hw := gq_at1 hw ev9
      refine va_put (D := D) (ci := 0) (v := .int v9) (ty := .int) (C := RX0) (T := TX0) (N := 5) hx hb hts iX0_setKind_X0 tyX0 tyX0_ok nmX0 hown hK hP hD hS 0 rfl rfl 4 (by decide) (hts (.fieldLink RX0 31 "DecoyHouse$Plan" "jewels" "I") (by decide +kernel)) (fun _ h9 => h9) rfl (by decide +kernel) rfl rfl (Nat.le_of_ble_eq_true rfl) dX0_setKind_54 (fun H locs hP hD hS => ?_)
      have hP : va_P D vwCl (wdP ad ck Pd Pm Ps v7 v9) H := hP
      have hD : va_D A (wdP ad ck Pd Pm Ps v7 v9) := hD
      exact hz (v7, v9) _ _ _ _ dX0_setKind_57 hw hP hD hS
    · have hw := gq_t c8 hw
      refine lv_aload_n hx hb dX0_setKind_37 rfl (lv_at hl 1 rfl) ?_
      refine va_get (D := D) (ci := 0) (v := .int Pj) (C := RX0) (T := TX0) (N := 5) hx hb hts iX0_setKind_X0 hown hK hP 0 rfl rfl 4 (by decide) (hts (.fieldLink RX0 31 "DecoyHouse$Plan" "jewels" "I") (by decide +kernel)) (fun _ h9 => h9) rfl dX0_setKind_38 ?_
      refine lv_iload_n hx hb dX0_setKind_41 rfl (lv_at hl 0 rfl) ?_
      refine lv_ior hx hb dX0_setKind_42 ?_
      refine lv_goto (tgt := 54) hx hb dX0_setKind_43 (by decide) ?_
      refine lv_topi (fun v10 ev10 => ?_)
      have hw := gq_at1 hw ev10
      refine va_put (D := D) (ci := 0) (v := .int v10) (ty := .int) (C := RX0) (T := TX0) (N := 5) hx hb hts iX0_setKind_X0 tyX0 tyX0_ok nmX0 hown hK hP hD hS 0 rfl rfl 4 (by decide) (hts (.fieldLink RX0 31 "DecoyHouse$Plan" "jewels" "I") (by decide +kernel)) (fun _ h9 => h9) rfl (by decide +kernel) rfl rfl (Nat.le_of_ble_eq_true rfl) dX0_setKind_54 (fun H locs hP hD hS => ?_)
      have hP : va_P D vwCl (wdP ad ck Pd Pm Ps v7 v10) H := hP
      have hD : va_D A (wdP ad ck Pd Pm Ps v7 v10) := hD
      exact hz (v7, v10) _ _ _ _ dX0_setKind_57 hw hP hD hS

def wp_X0_gateSet  (Pg : Int32) (post : Int32 → Prop) : Prop :=
  post Pg

theorem iX0_gateSet_X0 : ∀ w ∈ wsX00, w ∈ wsX0_gateSet := by decide +kernel
set_option maxHeartbeats 4000000 in
set_option maxRecDepth 100000 in
theorem c_X0_gateSet (l : Launch) (D : va_G) (ad : Nat → Nat) (ck : Nat → ClassId) (sz : Nat) (Pd : Nat → Int32) (Pm : Nat → Int32) (Ps : Int32) (Pg : Int32) (Pj : Int32)  (post : Int32 → Prop) (hw : wp_X0_gateSet Pg post) : Met l yX0_gateSet wsX0_gateSet { frames := 0, cells := 0, slots := 0, locals := 0 } (va_Pc [.ref (ad 1)] (gq_pre D (tyP ck) (wdP ad ck Pd Pm Ps Pg Pj) sz)) (va_Qi (fun (r : Int32) (_ : Unit) => post r ) (gq_at D (va_A (wdP ad ck Pd Pm Ps Pg Pj) sz) (fun (_ : Unit) => (wdP ad ck Pd Pm Ps Pg Pj))) (va_A (wdP ad ck Pd Pm Ps Pg Pj) sz)) 0 0 (va_A (wdP ad ck Pd Pm Ps Pg Pj) sz) := by
  refine gq_meti (cc := cX0_gateSet) (maxL := 1) (lv := [(0, .ref (ad 1))]) (by decide) rfl (Nat.le_of_ble_eq_true rfl) rfl ?_
  intro p e s m below meth c A Q ls H locs hx hb hml hown hts hnw hA hK hP hD hS hl hz
  refine lv_aload_n hx hb dX0_gateSet_0 rfl (lv_at hl 0 rfl) ?_
  refine va_get (D := D) (ci := 0) (v := .int Pg) (C := RX0) (T := TX0) (N := 5) hx hb hts iX0_gateSet_X0 hown hK hP 0 rfl rfl 3 (by decide) (hts (.fieldLink RX0 28 "DecoyHouse$Plan" "gates" "I") (by decide +kernel)) (fun _ h9 => h9) rfl dX0_gateSet_1 ?_
  exact hz Pg () _ _ _ _ dX0_gateSet_4 hw hP hD hS

def wp_X0_jewelSet  (Pj : Int32) (post : Int32 → Prop) : Prop :=
  post Pj

theorem iX0_jewelSet_X0 : ∀ w ∈ wsX00, w ∈ wsX0_jewelSet := by decide +kernel
set_option maxHeartbeats 4000000 in
set_option maxRecDepth 100000 in
theorem c_X0_jewelSet (l : Launch) (D : va_G) (ad : Nat → Nat) (ck : Nat → ClassId) (sz : Nat) (Pd : Nat → Int32) (Pm : Nat → Int32) (Ps : Int32) (Pg : Int32) (Pj : Int32)  (post : Int32 → Prop) (hw : wp_X0_jewelSet Pj post) : Met l yX0_jewelSet wsX0_jewelSet { frames := 0, cells := 0, slots := 0, locals := 0 } (va_Pc [.ref (ad 1)] (gq_pre D (tyP ck) (wdP ad ck Pd Pm Ps Pg Pj) sz)) (va_Qi (fun (r : Int32) (_ : Unit) => post r ) (gq_at D (va_A (wdP ad ck Pd Pm Ps Pg Pj) sz) (fun (_ : Unit) => (wdP ad ck Pd Pm Ps Pg Pj))) (va_A (wdP ad ck Pd Pm Ps Pg Pj) sz)) 0 0 (va_A (wdP ad ck Pd Pm Ps Pg Pj) sz) := by
  refine gq_meti (cc := cX0_jewelSet) (maxL := 1) (lv := [(0, .ref (ad 1))]) (by decide) rfl (Nat.le_of_ble_eq_true rfl) rfl ?_
  intro p e s m below meth c A Q ls H locs hx hb hml hown hts hnw hA hK hP hD hS hl hz
  refine lv_aload_n hx hb dX0_jewelSet_0 rfl (lv_at hl 0 rfl) ?_
  refine va_get (D := D) (ci := 0) (v := .int Pj) (C := RX0) (T := TX0) (N := 5) hx hb hts iX0_jewelSet_X0 hown hK hP 0 rfl rfl 4 (by decide) (hts (.fieldLink RX0 31 "DecoyHouse$Plan" "jewels" "I") (by decide +kernel)) (fun _ h9 => h9) rfl dX0_jewelSet_1 ?_
  exact hz Pj () _ _ _ _ dX0_jewelSet_4 hw hP hD hS

def wp_X0_plainSet  (Ps : Int32) (Pg : Int32) (Pj : Int32) (post : Int32 → Prop) : Prop :=
  post (((((1 : Int32) <<< (Ps &&& 31)) - 1) &&& (Pg ^^^ (-1))) &&& (Pj ^^^ (-1)))

theorem iX0_plainSet_X0 : ∀ w ∈ wsX00, w ∈ wsX0_plainSet := by decide +kernel
set_option maxHeartbeats 4000000 in
set_option maxRecDepth 100000 in
theorem c_X0_plainSet (l : Launch) (D : va_G) (ad : Nat → Nat) (ck : Nat → ClassId) (sz : Nat) (Pd : Nat → Int32) (Pm : Nat → Int32) (Ps : Int32) (Pg : Int32) (Pj : Int32)  (post : Int32 → Prop) (hw : wp_X0_plainSet Ps Pg Pj post) : Met l yX0_plainSet wsX0_plainSet { frames := 0, cells := 0, slots := 0, locals := 0 } (va_Pc [.ref (ad 1)] (gq_pre D (tyP ck) (wdP ad ck Pd Pm Ps Pg Pj) sz)) (va_Qi (fun (r : Int32) (_ : Unit) => post r ) (gq_at D (va_A (wdP ad ck Pd Pm Ps Pg Pj) sz) (fun (_ : Unit) => (wdP ad ck Pd Pm Ps Pg Pj))) (va_A (wdP ad ck Pd Pm Ps Pg Pj) sz)) 0 0 (va_A (wdP ad ck Pd Pm Ps Pg Pj) sz) := by
  refine gq_meti (cc := cX0_plainSet) (maxL := 1) (lv := [(0, .ref (ad 1))]) (by decide) rfl (Nat.le_of_ble_eq_true rfl) rfl ?_
  intro p e s m below meth c A Q ls H locs hx hb hml hown hts hnw hA hK hP hD hS hl hz
  refine lv_iconst (v := 1) hx hb dX0_plainSet_0 (by decide) ?_
  refine lv_aload_n hx hb dX0_plainSet_1 rfl (lv_at hl 0 rfl) ?_
  refine va_get (D := D) (ci := 0) (v := .int Ps) (C := RX0) (T := TX0) (N := 5) hx hb hts iX0_plainSet_X0 hown hK hP 0 rfl rfl 2 (by decide) (hts (.fieldLink RX0 24 "DecoyHouse$Plan" "size" "I") (by decide +kernel)) (fun _ h9 => h9) rfl dX0_plainSet_2 ?_
  refine lv_ishl hx hb dX0_plainSet_5 ?_
  refine lv_iconst (v := 1) hx hb dX0_plainSet_6 (by decide) ?_
  refine lv_isub hx hb dX0_plainSet_7 ?_
  refine lv_aload_n hx hb dX0_plainSet_8 rfl (lv_at hl 0 rfl) ?_
  refine va_get (D := D) (ci := 0) (v := .int Pg) (C := RX0) (T := TX0) (N := 5) hx hb hts iX0_plainSet_X0 hown hK hP 0 rfl rfl 3 (by decide) (hts (.fieldLink RX0 28 "DecoyHouse$Plan" "gates" "I") (by decide +kernel)) (fun _ h9 => h9) rfl dX0_plainSet_9 ?_
  refine lv_iconst (v := (-1)) hx hb dX0_plainSet_12 (by decide) ?_
  refine lv_ixor hx hb dX0_plainSet_13 ?_
  refine lv_iand hx hb dX0_plainSet_14 ?_
  refine lv_aload_n hx hb dX0_plainSet_15 rfl (lv_at hl 0 rfl) ?_
  refine va_get (D := D) (ci := 0) (v := .int Pj) (C := RX0) (T := TX0) (N := 5) hx hb hts iX0_plainSet_X0 hown hK hP 0 rfl rfl 4 (by decide) (hts (.fieldLink RX0 31 "DecoyHouse$Plan" "jewels" "I") (by decide +kernel)) (fun _ h9 => h9) rfl dX0_plainSet_16 ?_
  refine lv_iconst (v := (-1)) hx hb dX0_plainSet_19 (by decide) ?_
  refine lv_ixor hx hb dX0_plainSet_20 ?_
  refine lv_iand hx hb dX0_plainSet_21 ?_
  exact hz (((((1 : Int32) <<< (Ps &&& 31)) - 1) &&& (Pg ^^^ (-1))) &&& (Pj ^^^ (-1))) () _ _ _ _ dX0_plainSet_22 hw hP hD hS

def wp_X0_setMarks (p1 : Int32) (p2 : Int32) (Pm : Nat → Int32) (Ps : Int32) (post : (Nat → Int32) → Prop) : Prop :=
  wp_X0_hasPlace p1 Ps (fun (r1 : Int32) => (if r1 = 0 then post Pm else vp_in p1 9 ∧ gq_nm (upd Pm (p1).toNatClampNeg p2) (fun Pm_3 : Nat → Int32 => post Pm_3)))

theorem iX0_setMarks_X0 : ∀ w ∈ wsX00, w ∈ wsX0_setMarks := by decide +kernel
set_option maxHeartbeats 4000000 in
set_option maxRecDepth 100000 in
theorem c_X0_setMarks (l : Launch) (D : va_G) (ad : Nat → Nat) (ck : Nat → ClassId) (sz : Nat) (Pd : Nat → Int32) (Pm : Nat → Int32) (Ps : Int32) (Pg : Int32) (Pj : Int32) (p1 : Int32) (p2 : Int32) (post : (Nat → Int32) → Prop) (hw : wp_X0_setMarks p1 p2 Pm Ps post) : Met l yX0_setMarks wsX0_setMarks { frames := 1, cells := 0, slots := 0, locals := 21 } (va_Pc [.ref (ad 1), .int p1, .int p2] (gq_pre D (tyP ck) (wdP ad ck Pd Pm Ps Pg Pj) sz)) (va_Qv (fun (u : (Nat → Int32)) => post u) (gq_at D (va_A (wdP ad ck Pd Pm Ps Pg Pj) sz) (fun (u : (Nat → Int32)) => (wdP ad ck Pd u Ps Pg Pj))) (va_A (wdP ad ck Pd Pm Ps Pg Pj) sz)) 0 0 (va_A (wdP ad ck Pd Pm Ps Pg Pj) sz) := by
  refine gq_metv (cc := cX0_setMarks) (maxL := 3) (lv := [(0, .ref (ad 1)), (1, .int p1), (2, .int p2)]) (by decide) rfl (Nat.le_of_ble_eq_true rfl) rfl ?_
  intro p e s m below meth c A Q ls H locs hx hb hml hown hts hnw hA hK hP hD hS hl hz
  refine lv_aload_n hx hb dX0_setMarks_0 rfl (lv_at hl 0 rfl) ?_
  refine lv_iload_n hx hb dX0_setMarks_1 rfl (lv_at hl 1 rfl) ?_
  refine gq_calli (wsN := fun _ => (wdP ad ck Pd Pm Ps Pg Pj)) (va_runV (As := [.int p1]) (rest := []) ⟨hx, hb, hml, hown, hts⟩ (c_X0_hasPlace l D ad ck H.size Pd Pm Ps Pg Pj p1 _ hw) (cwV 1 hts gX0_setMarks_X0_hasPlace rfl rfl rfl (by decide +kernel) ⟨Nat.le_of_ble_eq_true rfl, Nat.le_of_ble_eq_true rfl⟩) (gq_preV hK [0, 1] rfl hP hD [0, 1, 2] rfl rfl hnw 0 0 rfl rfl) rfl rfl hl.1 rfl (lv_room (Nat.le_of_ble_eq_true rfl)) dX0_setMarks_2 ⟨Nat.zero_le _, Nat.zero_le _⟩) hP hD hS hA [0, 1, 2] [] rfl rfl rfl (by decide) [0, 1, 2] rfl (fun _ => rfl) (fun r1 _ H locs hw hP hD hS => ?_)
  refine lv_if_eq (tgt := 15) hx hb dX0_setMarks_5 (by decide) (fun c2 => ?_) (fun c2 => ?_)
  · have hw := gq_t c2 hw
    exact hz Pm _ _ _ _ dX0_setMarks_15 hw hP hD hS
  · have hw := gq_f c2 hw
    refine lv_aload_n hx hb dX0_setMarks_8 rfl (lv_at hl 0 rfl) ?_
    refine va_get (D := D) (ci := 0) (v := .ref (ad 3)) (C := RX0) (T := TX0) (N := 5) hx hb hts iX0_setMarks_X0 hown hK hP 0 rfl rfl 1 (by decide) (hts (.fieldLink RX0 15 "DecoyHouse$Plan" "marksOf" "[I") (by decide +kernel)) (fun _ h9 => h9) rfl dX0_setMarks_9 ?_
    refine lv_iload_n hx hb dX0_setMarks_12 rfl (lv_at hl 1 rfl) ?_
    refine lv_iload_n hx hb dX0_setMarks_13 rfl (lv_at hl 2 rfl) ?_
    refine va_iast hx hb hK hP hD hS 2 1 rfl rfl hw.1 dX0_setMarks_14 (fun H locs hP hD hS => ?_)
    obtain ⟨Pm_3, ePm_3⟩ : ∃ y : Nat → Int32, y = upd Pm (p1).toNatClampNeg p2 := ⟨_, rfl⟩
    have hw := gq_at1 hw.2 ePm_3
    have hP : va_P D vwCl (wdP ad ck Pd Pm_3 Ps Pg Pj) H := by rw [ePm_3]; exact hP
    have hD : va_D A (wdP ad ck Pd Pm_3 Ps Pg Pj) := by rw [ePm_3]; exact hD
    exact hz Pm_3 _ _ _ _ dX0_setMarks_15 hw hP hD hS

def wp_X0_marks (p1 : Int32) (Pm : Nat → Int32) (Ps : Int32) (post : Int32 → Prop) : Prop :=
  wp_X0_hasPlace p1 Ps (fun (r1 : Int32) => (if r1 = 0 then post 0 else vp_in p1 9 ∧ post (Pm (p1).toNatClampNeg)))

theorem iX0_marks_X0 : ∀ w ∈ wsX00, w ∈ wsX0_marks := by decide +kernel
set_option maxHeartbeats 4000000 in
set_option maxRecDepth 100000 in
theorem c_X0_marks (l : Launch) (D : va_G) (ad : Nat → Nat) (ck : Nat → ClassId) (sz : Nat) (Pd : Nat → Int32) (Pm : Nat → Int32) (Ps : Int32) (Pg : Int32) (Pj : Int32) (p1 : Int32) (post : Int32 → Prop) (hw : wp_X0_marks p1 Pm Ps post) : Met l yX0_marks wsX0_marks { frames := 1, cells := 0, slots := 0, locals := 21 } (va_Pc [.ref (ad 1), .int p1] (gq_pre D (tyP ck) (wdP ad ck Pd Pm Ps Pg Pj) sz)) (va_Qi (fun (r : Int32) (_ : Unit) => post r ) (gq_at D (va_A (wdP ad ck Pd Pm Ps Pg Pj) sz) (fun (_ : Unit) => (wdP ad ck Pd Pm Ps Pg Pj))) (va_A (wdP ad ck Pd Pm Ps Pg Pj) sz)) 0 0 (va_A (wdP ad ck Pd Pm Ps Pg Pj) sz) := by
  refine gq_meti (cc := cX0_marks) (maxL := 2) (lv := [(0, .ref (ad 1)), (1, .int p1)]) (by decide) rfl (Nat.le_of_ble_eq_true rfl) rfl ?_
  intro p e s m below meth c A Q ls H locs hx hb hml hown hts hnw hA hK hP hD hS hl hz
  refine lv_aload_n hx hb dX0_marks_0 rfl (lv_at hl 0 rfl) ?_
  refine lv_iload_n hx hb dX0_marks_1 rfl (lv_at hl 1 rfl) ?_
  refine gq_calli (wsN := fun _ => (wdP ad ck Pd Pm Ps Pg Pj)) (va_runV (As := [.int p1]) (rest := []) ⟨hx, hb, hml, hown, hts⟩ (c_X0_hasPlace l D ad ck H.size Pd Pm Ps Pg Pj p1 _ hw) (cwV 1 hts gX0_marks_X0_hasPlace rfl rfl rfl (by decide +kernel) ⟨Nat.le_of_ble_eq_true rfl, Nat.le_of_ble_eq_true rfl⟩) (gq_preV hK [0, 1] rfl hP hD [0, 1, 2] rfl rfl hnw 0 0 rfl rfl) rfl rfl hl.1 rfl (lv_room (Nat.le_of_ble_eq_true rfl)) dX0_marks_2 ⟨Nat.zero_le _, Nat.zero_le _⟩) hP hD hS hA [0, 1, 2] [] rfl rfl rfl (by decide) [0, 1, 2] rfl (fun _ => rfl) (fun r1 _ H locs hw hP hD hS => ?_)
  refine lv_if_eq (tgt := 17) hx hb dX0_marks_5 (by decide) (fun c2 => ?_) (fun c2 => ?_)
  · have hw := gq_t c2 hw
    refine lv_iconst (v := 0) hx hb dX0_marks_17 (by decide) ?_
    exact hz 0 () _ _ _ _ dX0_marks_18 hw hP hD hS
  · have hw := gq_f c2 hw
    refine lv_aload_n hx hb dX0_marks_8 rfl (lv_at hl 0 rfl) ?_
    refine va_get (D := D) (ci := 0) (v := .ref (ad 3)) (C := RX0) (T := TX0) (N := 5) hx hb hts iX0_marks_X0 hown hK hP 0 rfl rfl 1 (by decide) (hts (.fieldLink RX0 15 "DecoyHouse$Plan" "marksOf" "[I") (by decide +kernel)) (fun _ h9 => h9) rfl dX0_marks_9 ?_
    refine lv_iload_n hx hb dX0_marks_12 rfl (lv_at hl 1 rfl) ?_
    refine va_iald hx hb hK hP 2 1 rfl rfl hw.1 dX0_marks_13 ?_
    have hw := hw.2
    refine lv_goto (tgt := 18) hx hb dX0_marks_14 (by decide) ?_
    exact hz (Pm (p1).toNatClampNeg) () _ _ _ _ dX0_marks_18 hw hP hD hS

