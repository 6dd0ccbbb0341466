def wp_X3_forget  (Br : Int32) (post : Int32 → Prop) : Prop :=
  post 0

theorem iX3_forget_X3 : ∀ w ∈ wsX30, w ∈ wsX3_forget := by decide +kernel
set_option maxHeartbeats 4000000 in
set_option maxRecDepth 100000 in
theorem c_X3_forget (l : Launch) (D : va_G) (ad : Nat → Nat) (ck : Nat → ClassId) (sz : Nat) (Bt : Nat → Int32) (Bi : Nat → Int32) (Bf : Int32) (Br : Int32)  (post : Int32 → Prop) (hw : wp_X3_forget Br post) : Met l yX3_forget wsX3_forget { frames := 0, cells := 0, slots := 0, locals := 0 } (va_Pc [.ref (ad 4)] (gq_pre D (tyB ck) (wdB ad ck Bt Bi Bf Br) sz)) (va_Qv (fun (u : Int32) => post u) (gq_at D (va_A (wdB ad ck Bt Bi Bf Br) sz) (fun (u : Int32) => (wdB ad ck Bt Bi Bf u))) (va_A (wdB ad ck Bt Bi Bf Br) sz)) 0 0 (va_A (wdB ad ck Bt Bi Bf Br) sz) := by
  refine gq_metv (cc := cX3_forget) (maxL := 1) (lv := [(0, .ref (ad 4))]) (by decide) rfl (Nat.le_of_ble_eq_true rfl) rfl ?_
  intro p e s m below meth c A Q ls H locs hx hb hml hown hts hnw hA hK hP hD hS hl hz
  refine lv_aload_n hx hb dX3_forget_0 rfl (lv_at hl 0 rfl) ?_
  refine lv_iconst (v := 0) hx hb dX3_forget_1 (by decide) ?_
  refine va_put (D := D) (ci := 3) (v := .int 0) (ty := .boolean) (C := RX3) (T := TX3) (N := 4) hx hb hts iX3_forget_X3 tyX3 tyX3_ok nmX3 hown hK hP hD hS 0 rfl rfl 3 (by decide) (hts (.fieldLink RX3 18 "DecoyHouse$WayBook" "read" "Z") (by decide +kernel)) (fun _ h9 => h9) rfl (by decide +kernel) rfl rfl (Nat.le_of_ble_eq_true rfl) dX3_forget_2 (fun H locs hP hD hS => ?_)
  have hP : va_P D vwCl (wdB ad ck Bt Bi Bf 0) H := hP
  have hD : va_D A (wdB ad ck Bt Bi Bf 0) := hD
  exact hz 0 _ _ _ _ dX3_forget_5 hw hP hD hS

def wp_X3_writeDown (p1 : Int32) (p2 : Int32) (Bt : Nat → Int32) (Bi : Nat → Int32) (Bf : Int32) (post : (Nat → Int32) → (Nat → Int32) → Int32 → Prop) : Prop :=
  (if 2000 ≤ Bf then gq_nm (Bf + 1) (fun v2 : Int32 => vp_in (p2 &&& 511) 512 ∧ vp_in (p2 &&& 511) 512 ∧ gq_nm (upd Bi ((p2 &&& 511)).toNatClampNeg ((Bi ((p2 &&& 511)).toNatClampNeg) + 1)) (fun Bi_3 : Nat → Int32 => post Bt Bi_3 v2)) else vp_in Bf 2000 ∧ gq_nm (upd Bt (Bf).toNatClampNeg p1) (fun Bt_4 : Nat → Int32 => gq_nm (Bf + 1) (fun v5 : Int32 => vp_in (p2 &&& 511) 512 ∧ vp_in (p2 &&& 511) 512 ∧ gq_nm (upd Bi ((p2 &&& 511)).toNatClampNeg ((Bi ((p2 &&& 511)).toNatClampNeg) + 1)) (fun Bi_6 : Nat → Int32 => post Bt_4 Bi_6 v5))))

theorem iX3_writeDown_X3 : ∀ w ∈ wsX30, w ∈ wsX3_writeDown := by decide +kernel
set_option maxHeartbeats 4000000 in
set_option maxRecDepth 100000 in
theorem c_X3_writeDown (l : Launch) (D : va_G) (ad : Nat → Nat) (ck : Nat → ClassId) (sz : Nat) (Bt : Nat → Int32) (Bi : Nat → Int32) (Bf : Int32) (Br : Int32) (p1 : Int32) (p2 : Int32) (post : (Nat → Int32) → (Nat → Int32) → Int32 → Prop) (hw : wp_X3_writeDown p1 p2 Bt Bi Bf post) : Met l yX3_writeDown wsX3_writeDown { frames := 0, cells := 0, slots := 0, locals := 0 } (va_Pc [.ref (ad 4), .int p1, .int p2] (gq_pre D (tyB ck) (wdB ad ck Bt Bi Bf Br) sz)) (va_Qv (fun (u : (Nat → Int32) × (Nat → Int32) × Int32) => post u.1 u.2.1 u.2.2) (gq_at D (va_A (wdB ad ck Bt Bi Bf Br) sz) (fun (u : (Nat → Int32) × (Nat → Int32) × Int32) => (wdB ad ck u.1 u.2.1 u.2.2 Br))) (va_A (wdB ad ck Bt Bi Bf Br) sz)) 0 0 (va_A (wdB ad ck Bt Bi Bf Br) sz) := by
  refine gq_metv (cc := cX3_writeDown) (maxL := 3) (lv := [(0, .ref (ad 4)), (1, .int p1), (2, .int p2)]) (by decide) rfl (Nat.le_of_ble_eq_true rfl) rfl ?_
  intro p e s m below meth c A Q ls H locs hx hb hml hown hts hnw hA hK hP hD hS hl hz
  refine lv_aload_n hx hb dX3_writeDown_0 rfl (lv_at hl 0 rfl) ?_
  refine va_get (D := D) (ci := 3) (v := .int Bf) (C := RX3) (T := TX3) (N := 4) hx hb hts iX3_writeDown_X3 hown hK hP 0 rfl rfl 2 (by decide) (hts (.fieldLink RX3 22 "DecoyHouse$WayBook" "found" "I") (by decide +kernel)) (fun _ h9 => h9) rfl dX3_writeDown_1 ?_
  refine lv_sipush (v := 2000) hx hb dX3_writeDown_4 (by decide) ?_
  refine lv_icmp_ge (tgt := 20) hx hb dX3_writeDown_7 (by decide) (fun c1 => ?_) (fun c1 => ?_)
  · have hw := gq_t c1 hw
    refine lv_aload_n hx hb dX3_writeDown_20 rfl (lv_at hl 0 rfl) ?_
    refine lv_dup hx hb dX3_writeDown_21 rfl ?_
    refine va_get (D := D) (ci := 3) (v := .int Bf) (C := RX3) (T := TX3) (N := 4) hx hb hts iX3_writeDown_X3 hown hK hP 0 rfl rfl 2 (by decide) (hts (.fieldLink RX3 22 "DecoyHouse$WayBook" "found" "I") (by decide +kernel)) (fun _ h9 => h9) rfl dX3_writeDown_22 ?_
    refine lv_iconst (v := 1) hx hb dX3_writeDown_25 (by decide) ?_
    refine lv_iadd hx hb dX3_writeDown_26 ?_
    refine lv_topi (fun v2 ev2 => ?_)
    have hw := gq_at1 hw ev2
    refine va_put (D := D) (ci := 3) (v := .int v2) (ty := .int) (C := RX3) (T := TX3) (N := 4) hx hb hts iX3_writeDown_X3 tyX3 tyX3_ok nmX3 hown hK hP hD hS 0 rfl rfl 2 (by decide) (hts (.fieldLink RX3 22 "DecoyHouse$WayBook" "found" "I") (by decide +kernel)) (fun _ h9 => h9) rfl (by decide +kernel) rfl rfl (Nat.le_of_ble_eq_true rfl) dX3_writeDown_27 (fun H locs hP hD hS => ?_)
    have hP : va_P D vwCl (wdB ad ck Bt Bi v2 Br) H := hP
    have hD : va_D A (wdB ad ck Bt Bi v2 Br) := hD
    refine lv_aload_n hx hb dX3_writeDown_30 rfl (lv_at hl 0 rfl) ?_
    refine va_get (D := D) (ci := 3) (v := .ref (ad 6)) (C := RX3) (T := TX3) (N := 4) hx hb hts iX3_writeDown_X3 hown hK hP 0 rfl rfl 1 (by decide) (hts (.fieldLink RX3 15 "DecoyHouse$WayBook" "inside" "[I") (by decide +kernel)) (fun _ h9 => h9) rfl dX3_writeDown_31 ?_
    refine lv_iload_n hx hb dX3_writeDown_34 rfl (lv_at hl 2 rfl) ?_
    refine lv_sipush (v := 511) hx hb dX3_writeDown_35 (by decide) ?_
    refine lv_iand hx hb dX3_writeDown_38 ?_
    refine lv_dup2_11 hx hb dX3_writeDown_39 rfl rfl ?_
    refine va_iald hx hb hK hP 2 1 rfl rfl hw.1 dX3_writeDown_40 ?_
    have hw := hw.2
    refine lv_iconst (v := 1) hx hb dX3_writeDown_41 (by decide) ?_
    refine lv_iadd hx hb dX3_writeDown_42 ?_
    refine va_iast hx hb hK hP hD hS 2 1 rfl rfl hw.1 dX3_writeDown_43 (fun H locs hP hD hS => ?_)
    obtain ⟨Bi_3, eBi_3⟩ : ∃ y : Nat → Int32, y = upd Bi ((p2 &&& 511)).toNatClampNeg ((Bi ((p2 &&& 511)).toNatClampNeg) + 1) := ⟨_, rfl⟩
    have hw := gq_at1 hw.2 eBi_3
    have hP : va_P D vwCl (wdB ad ck Bt Bi_3 v2 Br) H := by rw [eBi_3]; exact hP
    have hD : va_D A (wdB ad ck Bt Bi_3 v2 Br) := by rw [eBi_3]; exact hD
    exact hz (Bt, Bi_3, v2) _ _ _ _ dX3_writeDown_44 hw hP hD hS
  · have hw := gq_f c1 hw
    refine lv_aload_n hx hb dX3_writeDown_10 rfl (lv_at hl 0 rfl) ?_
    refine va_get (D := D) (ci := 3) (v := .ref (ad 5)) (C := RX3) (T := TX3) (N := 4) hx hb hts iX3_writeDown_X3 hown hK hP 0 rfl rfl 0 (by decide) (hts (.fieldLink RX3 9 "DecoyHouse$WayBook" "trails" "[I") (by decide +kernel)) (fun _ h9 => h9) rfl dX3_writeDown_11 ?_
    refine lv_aload_n hx hb dX3_writeDown_14 rfl (lv_at hl 0 rfl) ?_
    refine va_get (D := D) (ci := 3) (v := .int Bf) (C := RX3) (T := TX3) (N := 4) hx hb hts iX3_writeDown_X3 hown hK hP 0 rfl rfl 2 (by decide) (hts (.fieldLink RX3 22 "DecoyHouse$WayBook" "found" "I") (by decide +kernel)) (fun _ h9 => h9) rfl dX3_writeDown_15 ?_
    refine lv_iload_n hx hb dX3_writeDown_18 rfl (lv_at hl 1 rfl) ?_
    refine va_iast hx hb hK hP hD hS 1 0 rfl rfl hw.1 dX3_writeDown_19 (fun H locs hP hD hS => ?_)
    obtain ⟨Bt_4, eBt_4⟩ : ∃ y : Nat → Int32, y = upd Bt (Bf).toNatClampNeg p1 := ⟨_, rfl⟩
    have hw := gq_at1 hw.2 eBt_4
    have hP : va_P D vwCl (wdB ad ck Bt_4 Bi Bf Br) H := by rw [eBt_4]; exact hP
    have hD : va_D A (wdB ad ck Bt_4 Bi Bf Br) := by rw [eBt_4]; exact hD
    refine lv_aload_n hx hb dX3_writeDown_20 rfl (lv_at hl 0 rfl) ?_
    refine lv_dup hx hb dX3_writeDown_21 rfl ?_
    refine va_get (D := D) (ci := 3) (v := .int Bf) (C := RX3) (T := TX3) (N := 4) hx hb hts iX3_writeDown_X3 hown hK hP 0 rfl rfl 2 (by decide) (hts (.fieldLink RX3 22 "DecoyHouse$WayBook" "found" "I") (by decide +kernel)) (fun _ h9 => h9) rfl dX3_writeDown_22 ?_
    refine lv_iconst (v := 1) hx hb dX3_writeDown_25 (by decide) ?_
    refine lv_iadd hx hb dX3_writeDown_26 ?_
    refine lv_topi (fun v5 ev5 => ?_)
    have hw := gq_at1 hw ev5
    refine va_put (D := D) (ci := 3) (v := .int v5) (ty := .int) (C := RX3) (T := TX3) (N := 4) hx hb hts iX3_writeDown_X3 tyX3 tyX3_ok nmX3 hown hK hP hD hS 0 rfl rfl 2 (by decide) (hts (.fieldLink RX3 22 "DecoyHouse$WayBook" "found" "I") (by decide +kernel)) (fun _ h9 => h9) rfl (by decide +kernel) rfl rfl (Nat.le_of_ble_eq_true rfl) dX3_writeDown_27 (fun H locs hP hD hS => ?_)
    have hP : va_P D vwCl (wdB ad ck Bt_4 Bi v5 Br) H := hP
    have hD : va_D A (wdB ad ck Bt_4 Bi v5 Br) := hD
    refine lv_aload_n hx hb dX3_writeDown_30 rfl (lv_at hl 0 rfl) ?_
    refine va_get (D := D) (ci := 3) (v := .ref (ad 6)) (C := RX3) (T := TX3) (N := 4) hx hb hts iX3_writeDown_X3 hown hK hP 0 rfl rfl 1 (by decide) (hts (.fieldLink RX3 15 "DecoyHouse$WayBook" "inside" "[I") (by decide +kernel)) (fun _ h9 => h9) rfl dX3_writeDown_31 ?_
    refine lv_iload_n hx hb dX3_writeDown_34 rfl (lv_at hl 2 rfl) ?_
    refine lv_sipush (v := 511) hx hb dX3_writeDown_35 (by decide) ?_
    refine lv_iand hx hb dX3_writeDown_38 ?_
    refine lv_dup2_11 hx hb dX3_writeDown_39 rfl rfl ?_
    refine va_iald hx hb hK hP 2 1 rfl rfl hw.1 dX3_writeDown_40 ?_
    have hw := hw.2
    refine lv_iconst (v := 1) hx hb dX3_writeDown_41 (by decide) ?_
    refine lv_iadd hx hb dX3_writeDown_42 ?_
    refine va_iast hx hb hK hP hD hS 2 1 rfl rfl hw.1 dX3_writeDown_43 (fun H locs hP hD hS => ?_)
    obtain ⟨Bi_6, eBi_6⟩ : ∃ y : Nat → Int32, y = upd Bi ((p2 &&& 511)).toNatClampNeg ((Bi ((p2 &&& 511)).toNatClampNeg) + 1) := ⟨_, rfl⟩
    have hw := gq_at1 hw.2 eBi_6
    have hP : va_P D vwCl (wdB ad ck Bt_4 Bi_6 v5 Br) H := by rw [eBi_6]; exact hP
    have hD : va_D A (wdB ad ck Bt_4 Bi_6 v5 Br) := by rw [eBi_6]; exact hD
    exact hz (Bt_4, Bi_6, v5) _ _ _ _ dX3_writeDown_44 hw hP hD hS

def wl_X3_walkOn_36 (p3 : Int32) (p4 : Int32) (p5 : Int32) (Pd : Nat → Int32) (Ps : Int32) (Pj : Int32) (v3 : Int32)   (REC : Int32 → Int32 → Int32 → Int32 → (Nat → Int32) → Int32 → Int32 → (Nat → Int32) → (Nat → Int32) → Int32 → ((Nat → Int32) → (Nat → Int32) → Int32 → Prop) → Prop) (post : (Nat → Int32) → (Nat → Int32) → Int32 → Prop) : Nat → Int32 → (Nat → Int32) → (Nat → Int32) → Int32 → Prop
  | 0, _, _, _, _ => False
  | n36 + 1, x5, Bt_6, Bi_7, Bf_8 => (if 9 ≤ x5 then post Bt_6 Bi_7 Bf_8 else (if 2000 < Bf_8 then post Bt_6 Bi_7 Bf_8 else wp_X4_has v3 x5 (fun (r11 : Int32) => (if r11 = 0 then gq_nm (x5 + 1) (fun v27 : Int32 => wl_X3_walkOn_36 p3 p4 p5 Pd Ps Pj v3 REC post n36 v27 Bt_6 Bi_7 Bf_8) else wp_X4_withPlace p4 p3 x5 (fun (r13 : Int32) => wp_X0_jewelSet Pj (fun (r14 : Int32) => wp_X4_has r14 x5 (fun (r15 : Int32) => (if r15 = 0 then wp_X4_setOf x5 (fun (r17 : Int32) => REC x5 (p3 + 1) r13 (p5 ||| r17) Pd Ps Pj Bt_6 Bi_7 Bf_8 (fun (Bt_18 : Nat → Int32) (Bi_19 : Nat → Int32) (Bf_20 : Int32) => gq_nm (x5 + 1) (fun v21 : Int32 => wl_X3_walkOn_36 p3 p4 p5 Pd Ps Pj v3 REC post n36 v21 Bt_18 Bi_19 Bf_20))) else wp_X4_setOf x5 (fun (r22 : Int32) => wp_X3_writeDown r13 (p5 ||| r22) Bt_6 Bi_7 Bf_8 (fun (Bt_23 : Nat → Int32) (Bi_24 : Nat → Int32) (Bf_25 : Int32) => gq_nm (x5 + 1) (fun v26 : Int32 => wl_X3_walkOn_36 p3 p4 p5 Pd Ps Pj v3 REC post n36 v26 Bt_23 Bi_24 Bf_25)))))))))))

def wp_X3_walkOn : Nat → Int32 → Int32 → Int32 → Int32 → (Nat → Int32) → Int32 → Int32 → (Nat → Int32) → (Nat → Int32) → Int32 → ((Nat → Int32) → (Nat → Int32) → Int32 → Prop) → Prop
  | 0, _, _, _, _, _, _, _, _, _, _, _ => False
  | d + 1, p2, p3, p4, p5, Pd, Ps, Pj, Bt, Bi, Bf, post => (if p3 < 6 then wp_X0_doorSet p2 Pd Ps (fun (r2 : Int32) => gq_nm (r2 &&& (p5 ^^^ (-1))) (fun v3 : Int32 => (if p3 = 5 then wp_X0_jewelSet Pj (fun (r28 : Int32) => gq_nm (v3 &&& r28) (fun v29 : Int32 => ∃ k36, wl_X3_walkOn_36 p3 p4 p5 Pd Ps Pj v29 (wp_X3_walkOn d) post k36 0 Bt Bi Bf)) else ∃ k36, wl_X3_walkOn_36 p3 p4 p5 Pd Ps Pj v3 (wp_X3_walkOn d) post k36 0 Bt Bi Bf))) else post Bt Bi Bf)

theorem iX3_walkOn_X3 : ∀ w ∈ wsX30, w ∈ wsX3_walkOn := by decide +kernel
set_option maxHeartbeats 4000000 in
set_option maxRecDepth 100000 in
theorem ca_X3_walkOn (l : Launch) (D : va_G) (ad : Nat → Nat) (ck : Nat → ClassId) : ∀ (d : Nat) (sz : Nat) (Pd : Nat → Int32) (Pm : Nat → Int32) (Ps : Int32) (Pg : Int32) (Pj : Int32) (Bt : Nat → Int32) (Bi : Nat → Int32) (Bf : Int32) (Br : Int32) (p2 : Int32) (p3 : Int32) (p4 : Int32) (p5 : Int32) (post : (Nat → Int32) → (Nat → Int32) → Int32 → Prop), wp_X3_walkOn d p2 p3 p4 p5 Pd Ps Pj Bt Bi Bf post → Met l yX3_walkOn wsX3_walkOn { frames := 2 + d, cells := 0, slots := 0, locals := 42 + 28 * d } (va_Pc [.ref (ad 4), .ref (ad 1), .int p2, .int p3, .int p4, .int p5] (gq_pre D (tyBP ck) (wdBP ad ck Pd Pm Ps Pg Pj Bt Bi Bf Br) sz)) (va_Qv (fun (u : (Nat → Int32) × (Nat → Int32) × Int32) => post u.1 u.2.1 u.2.2) (gq_at D (va_A (wdBP ad ck Pd Pm Ps Pg Pj Bt Bi Bf Br) sz) (fun (u : (Nat → Int32) × (Nat → Int32) × Int32) => (wdBP ad ck Pd Pm Ps Pg Pj u.1 u.2.1 u.2.2 Br))) (va_A (wdBP ad ck Pd Pm Ps Pg Pj Bt Bi Bf Br) sz)) 0 0 (va_A (wdBP ad ck Pd Pm Ps Pg Pj Bt Bi Bf Br) sz) := by
  intro d
  induction d with
  | zero =>
    intro sz Pd Pm Ps Pg Pj Bt Bi Bf Br p2 p3 p4 p5 post hw
    exact hw.elim
  | succ d ihd =>
    intro sz Pd Pm Ps Pg Pj Bt Bi Bf Br p2 p3 p4 p5 post hw
    refine gq_metv (cc := cX3_walkOn) (maxL := 9) (lv := [(0, .ref (ad 4)), (1, .ref (ad 1)), (2, .int p2), (3, .int p3), (4, .int p4), (5, .int p5)]) (by decide) rfl (Nat.le_of_ble_eq_true rfl) rfl ?_
    intro p e s m below meth c A Q ls H locs hx hb hml hown hts hnw hA hK hP hD hS hl hz
    refine lv_iload_n hx hb dX3_walkOn_0 rfl (lv_at hl 3 rfl) ?_
    refine lv_bipush (v := 6) hx hb dX3_walkOn_1 (by decide) ?_
    refine lv_icmp_lt (tgt := 7) hx hb dX3_walkOn_3 (by decide) (fun c1 => ?_) (fun c1 => ?_)
    · have hw := gq_t c1 hw
      refine lv_aload_n hx hb dX3_walkOn_7 rfl (lv_at hl 1 rfl) ?_
      refine lv_iload_n hx hb dX3_walkOn_8 rfl (lv_at hl 2 rfl) ?_
      refine gq_calli (wsN := fun _ => (wdBP ad ck Pd Pm Ps Pg Pj Bt Bi Bf Br)) (va_runV (As := [.int p2]) (rest := []) ⟨hx, hb, hml, hown, hts⟩ (c_X0_doorSet l D ad ck H.size Pd Pm Ps Pg Pj p2 _ hw) (cwV 1 hts gX3_walkOn_X0_doorSet rfl rfl rfl (by decide +kernel) ⟨show 1 + 1 ≤ 2 + (d + 1) by omega, show 8 + (2 + 11) + 21 ≤ 42 + 28 * (d + 1) by omega⟩) (gq_preV hK [2, 3] rfl hP hD [3, 4, 5] rfl rfl hnw 0 0 rfl rfl) rfl rfl hl.1 rfl (lv_room (Nat.le_of_ble_eq_true rfl)) dX3_walkOn_9 ⟨Nat.zero_le _, Nat.zero_le _⟩) hP hD hS hA [3, 4, 5] [0, 1, 2] rfl rfl rfl (by decide) [0, 1, 2, 3, 4, 5] rfl (fun _ => rfl) (fun r2 _ H locs hw hP hD hS => ?_)
      refine lv_iload hx hb dX3_walkOn_12 (lv_at hl 5 rfl) ?_
      refine lv_iconst (v := (-1)) hx hb dX3_walkOn_14 (by decide) ?_
      refine lv_ixor hx hb dX3_walkOn_15 ?_
      refine lv_iand hx hb dX3_walkOn_16 ?_
      refine lv_topi (fun v3 ev3 => ?_)
      have hw := gq_at1 hw ev3
      refine lv_istore (lv' := [(6, .int v3), (0, .ref (ad 4)), (1, .ref (ad 1)), (2, .int p2), (3, .int p3), (4, .int p4), (5, .int p5)]) hx hb dX3_walkOn_17 hl (by decide) rfl (fun ls hl => ?_)
      refine lv_iload_n hx hb dX3_walkOn_19 rfl (lv_at hl 4 rfl) ?_
      refine lv_iconst (v := 5) hx hb dX3_walkOn_20 (by decide) ?_
      refine lv_icmp_ne (tgt := 33) hx hb dX3_walkOn_21 (by decide) (fun c4 => ?_) (fun c4 => ?_)
      · have hw := gq_f c4 hw
        refine lv_iconst (v := 0) hx hb dX3_walkOn_33 (by decide) ?_
        refine lv_istore (lv' := [(7, .int 0), (6, .int v3), (0, .ref (ad 4)), (1, .ref (ad 1)), (2, .int p2), (3, .int p3), (4, .int p4), (5, .int p5)]) hx hb dX3_walkOn_34 hl (by decide) rfl (fun ls hl => ?_)
        have hL36 : ∀ (n : Nat) (x5 : Int32) (Bt_6 : Nat → Int32) (Bi_7 : Nat → Int32) (Bf_8 : Int32) (H : Heap) (locs : List Loc), wl_X3_walkOn_36 p3 p4 p5 Pd Ps Pj v3 (wp_X3_walkOn d) post n x5 Bt_6 Bi_7 Bf_8 → va_P D vwCl (wdBP ad ck Pd Pm Ps Pg Pj Bt_6 Bi_7 Bf_8 Br) H → va_D A (wdBP ad ck Pd Pm Ps Pg Pj Bt_6 Bi_7 Bf_8 Br) → va_S A s.heap H locs → ∀ ls : Array Slot, lv_has ls 9 [(0, .ref (ad 4)), (1, .ref (ad 1)), (2, .int p2), (3, .int p3), (4, .int p4), (5, .int p5), (6, .int v3), (7, .int x5)] → W p l e { frames := 2 + (d + 1), cells := 0, slots := 0, locals := 42 + 28 * (d + 1) } s m ([.ref (ad 4), .ref (ad 1), .int p2, .int p3, .int p4, .int p5] : List Value).toArray below meth c H locs 0 0 Q (F0 m 36 ls []) := by
          intro n
          induction n with
          | zero =>
            intro x5 Bt_6 Bi_7 Bf_8 H locs hw
            exact hw.elim
          | succ n ih =>
            intro x5 Bt_6 Bi_7 Bf_8 H locs hw hP hD hS ls hl
            refine lv_iload hx hb dX3_walkOn_36 (lv_at hl 7 rfl) ?_
            refine lv_bipush (v := 9) hx hb dX3_walkOn_38 (by decide) ?_
            refine lv_icmp_ge (tgt := 131) hx hb dX3_walkOn_40 (by decide) (fun c9 => ?_) (fun c9 => ?_)
            · have hw := gq_t c9 hw
              exact hz (Bt_6, Bi_7, Bf_8) _ _ _ _ dX3_walkOn_131 hw hP hD hS
            · have hw := gq_f c9 hw
              refine lv_aload_n hx hb dX3_walkOn_43 rfl (lv_at hl 0 rfl) ?_
              refine va_get (D := D) (ci := 3) (v := .int Bf_8) (C := RX3) (T := TX3) (N := 4) hx hb hts iX3_walkOn_X3 hown hK hP 0 rfl rfl 2 (by decide) (hts (.fieldLink RX3 22 "DecoyHouse$WayBook" "found" "I") (by decide +kernel)) (fun _ h9 => h9) rfl dX3_walkOn_44 ?_
              refine lv_sipush (v := 2000) hx hb dX3_walkOn_47 (by decide) ?_
              refine lv_icmp_gt (tgt := 131) hx hb dX3_walkOn_50 (by decide) (fun c10 => ?_) (fun c10 => ?_)
              · have hw := gq_t c10 hw
                exact hz (Bt_6, Bi_7, Bf_8) _ _ _ _ dX3_walkOn_131 hw hP hD hS
              · have hw := gq_f c10 hw
                refine lv_iload hx hb dX3_walkOn_53 (lv_at hl 6 rfl) ?_
                refine lv_iload hx hb dX3_walkOn_55 (lv_at hl 7 rfl) ?_
                refine gq_calli (wsN := fun _ => (wdBP ad ck Pd Pm Ps Pg Pj Bt_6 Bi_7 Bf_8 Br)) (va_runSN (As := [.int v3, .int x5]) (rest := []) ⟨hx, hb, hml, hown, hts⟩ (c_X4_has l D H.size v3 x5 _ hw) ⟨va_cnB 2 hts gX3_walkOn_X4_has_n38 rfl rfl rfl (hnw _ (List.mem_of_getElem? (i := 8) rfl)) (hts (.initialized RX4) (by decide +kernel)) (by decide +kernel) ⟨show 0 + 1 ≤ 2 + (d + 1) by omega, show 8 + (2 + 11) + 0 ≤ 42 + 28 * (d + 1) by omega⟩, hts (.static yX4_has) (by decide +kernel), trivial⟩ (gq_preS hK [] rfl hP hD [] rfl rfl hnw) rfl rfl hl.1 rfl (lv_room (Nat.le_of_ble_eq_true rfl)) dX3_walkOn_57 ⟨Nat.zero_le _, Nat.zero_le _⟩) hP hD hS hA [] [0, 1, 2, 3, 4, 5] rfl rfl rfl (by decide) [0, 1, 2, 3, 4, 5] rfl (fun _ => rfl) (fun r11 _ H locs hw hP hD hS => ?_)
                refine lv_if_ne (tgt := 66) hx hb dX3_walkOn_60 (by decide) (fun c12 => ?_) (fun c12 => ?_)
                · have hw := gq_f c12 hw
                  refine lv_iload hx hb dX3_walkOn_66 (lv_at hl 4 rfl) ?_
                  refine lv_iload_n hx hb dX3_walkOn_68 rfl (lv_at hl 3 rfl) ?_
                  refine lv_iload hx hb dX3_walkOn_69 (lv_at hl 7 rfl) ?_
                  refine gq_calli (wsN := fun _ => (wdBP ad ck Pd Pm Ps Pg Pj Bt_6 Bi_7 Bf_8 Br)) (va_runSN (As := [.int p4, .int p3, .int x5]) (rest := []) ⟨hx, hb, hml, hown, hts⟩ (c_X4_withPlace l D H.size p4 p3 x5 _ hw) ⟨va_cnB 3 hts gX3_walkOn_X4_withPlace_n42 rfl rfl rfl (hnw _ (List.mem_of_getElem? (i := 9) rfl)) (hts (.initialized RX4) (by decide +kernel)) (by decide +kernel) ⟨show 0 + 1 ≤ 2 + (d + 1) by omega, show 8 + (3 + 11) + 0 ≤ 42 + 28 * (d + 1) by omega⟩, hts (.static yX4_withPlace) (by decide +kernel), trivial⟩ (gq_preS hK [] rfl hP hD [] rfl rfl hnw) rfl rfl hl.1 rfl (lv_room (Nat.le_of_ble_eq_true rfl)) dX3_walkOn_71 ⟨Nat.zero_le _, Nat.zero_le _⟩) hP hD hS hA [] [0, 1, 2, 3, 4, 5] rfl rfl rfl (by decide) [0, 1, 2, 3, 4, 5] rfl (fun _ => rfl) (fun r13 _ H locs hw hP hD hS => ?_)
                  refine lv_istore (lv' := [(8, .int r13), (0, .ref (ad 4)), (1, .ref (ad 1)), (2, .int p2), (3, .int p3), (4, .int p4), (5, .int p5), (6, .int v3), (7, .int x5)]) hx hb dX3_walkOn_74 hl (by decide) rfl (fun ls hl => ?_)
                  refine lv_aload_n hx hb dX3_walkOn_76 rfl (lv_at hl 2 rfl) ?_
                  refine gq_calli (wsN := fun _ => (wdBP ad ck Pd Pm Ps Pg Pj Bt_6 Bi_7 Bf_8 Br)) (va_runV (As := []) (rest := []) ⟨hx, hb, hml, hown, hts⟩ (c_X0_jewelSet l D ad ck H.size Pd Pm Ps Pg Pj  _ hw) (cwV 0 hts gX3_walkOn_X0_jewelSet rfl rfl rfl (by decide +kernel) ⟨show 0 + 1 ≤ 2 + (d + 1) by omega, show 8 + (1 + 11) + 0 ≤ 42 + 28 * (d + 1) by omega⟩) (gq_preV hK [2, 3] rfl hP hD [3, 4, 5] rfl rfl hnw 0 0 rfl rfl) rfl rfl hl.1 rfl (lv_room (Nat.le_of_ble_eq_true rfl)) dX3_walkOn_77 ⟨Nat.zero_le _, Nat.zero_le _⟩) hP hD hS hA [3, 4, 5] [0, 1, 2] rfl rfl rfl (by decide) [0, 1, 2, 3, 4, 5] rfl (fun _ => rfl) (fun r14 _ H locs hw hP hD hS => ?_)
                  refine lv_iload hx hb dX3_walkOn_80 (lv_at hl 8 rfl) ?_
                  refine gq_calli (wsN := fun _ => (wdBP ad ck Pd Pm Ps Pg Pj Bt_6 Bi_7 Bf_8 Br)) (va_runSN (As := [.int r14, .int x5]) (rest := []) ⟨hx, hb, hml, hown, hts⟩ (c_X4_has l D H.size r14 x5 _ hw) ⟨va_cnB 2 hts gX3_walkOn_X4_has_n38 rfl rfl rfl (hnw _ (List.mem_of_getElem? (i := 8) rfl)) (hts (.initialized RX4) (by decide +kernel)) (by decide +kernel) ⟨show 0 + 1 ≤ 2 + (d + 1) by omega, show 8 + (2 + 11) + 0 ≤ 42 + 28 * (d + 1) by omega⟩, hts (.static yX4_has) (by decide +kernel), trivial⟩ (gq_preS hK [] rfl hP hD [] rfl rfl hnw) rfl rfl hl.1 rfl (lv_room (Nat.le_of_ble_eq_true rfl)) dX3_walkOn_82 ⟨Nat.zero_le _, Nat.zero_le _⟩) hP hD hS hA [] [0, 1, 2, 3, 4, 5] rfl rfl rfl (by decide) [0, 1, 2, 3, 4, 5] rfl (fun _ => rfl) (fun r15 _ H locs hw hP hD hS => ?_)
                  refine lv_if_eq (tgt := 105) hx hb dX3_walkOn_85 (by decide) (fun c16 => ?_) (fun c16 => ?_)
                  · have hw := gq_t c16 hw
                    refine lv_aload_n hx hb dX3_walkOn_105 rfl (lv_at hl 1 rfl) ?_
                    refine lv_aload_n hx hb dX3_walkOn_106 rfl (lv_at hl 2 rfl) ?_
                    refine lv_iload hx hb dX3_walkOn_107 (lv_at hl 8 rfl) ?_
                    refine lv_iload_n hx hb dX3_walkOn_109 rfl (lv_at hl 4 rfl) ?_
                    refine lv_iconst (v := 1) hx hb dX3_walkOn_110 (by decide) ?_
                    refine lv_iadd hx hb dX3_walkOn_111 ?_
                    refine lv_iload hx hb dX3_walkOn_112 (lv_at hl 0 rfl) ?_
                    refine lv_iload hx hb dX3_walkOn_114 (lv_at hl 6 rfl) ?_
                    refine lv_iload hx hb dX3_walkOn_116 (lv_at hl 8 rfl) ?_
                    refine gq_calli (wsN := fun _ => (wdBP ad ck Pd Pm Ps Pg Pj Bt_6 Bi_7 Bf_8 Br)) (va_runSN (As := [.int x5]) (rest := [.int p5, .int r13, .int (p3 + 1), .int x5, .ref (ad 1), .ref (ad 4)]) ⟨hx, hb, hml, hown, hts⟩ (c_X4_setOf l D H.size x5 _ hw) ⟨va_cnB 1 hts gX3_walkOn_X4_setOf_n46 rfl rfl rfl (hnw _ (List.mem_of_getElem? (i := 10) rfl)) (hts (.initialized RX4) (by decide +kernel)) (by decide +kernel) ⟨show 0 + 1 ≤ 2 + (d + 1) by omega, show 8 + (1 + 11) + 0 ≤ 42 + 28 * (d + 1) by omega⟩, hts (.static yX4_setOf) (by decide +kernel), trivial⟩ (gq_preS hK [] rfl hP hD [] rfl rfl hnw) rfl rfl hl.1 rfl (lv_room (Nat.le_of_ble_eq_true rfl)) dX3_walkOn_118 ⟨Nat.zero_le _, Nat.zero_le _⟩) hP hD hS hA [] [0, 1, 2, 3, 4, 5] rfl rfl rfl (by decide) [0, 1, 2, 3, 4, 5] rfl (fun _ => rfl) (fun r17 _ H locs hw hP hD hS => ?_)
                    refine lv_ior hx hb dX3_walkOn_121 ?_
                    refine gq_callv (wsN := fun u => (wdBP ad ck Pd Pm Ps Pg Pj u.1 u.2.1 u.2.2 Br)) (va_runV (As := [.ref (ad 1), .int x5, .int (p3 + 1), .int r13, .int (p5 ||| r17)]) (rest := []) ⟨hx, hb, hml, hown, hts⟩ (ihd H.size Pd Pm Ps Pg Pj Bt_6 Bi_7 Bf_8 Br x5 (p3 + 1) r13 (p5 ||| r17) _ hw) (cwV 5 hts gX3_walkOn_X3_walkOn rfl rfl rfl (by decide +kernel) ⟨show 2 + d + 1 ≤ 2 + (d + 1) by omega, show 8 + (9 + 11) + (42 + 28 * d) ≤ 42 + 28 * (d + 1) by omega⟩) (gq_preV hK [0, 1, 2, 3] rfl hP hD [0, 1, 2, 3, 4, 5] rfl rfl hnw 3 0 rfl rfl) rfl rfl hl.1 rfl (lv_room (Nat.le_of_ble_eq_true rfl)) dX3_walkOn_122 ⟨Nat.zero_le _, Nat.zero_le _⟩) hP hD hS hA [0, 1, 2, 3, 4, 5] [] rfl rfl rfl (by decide) [0, 1, 2, 3, 4, 5] rfl (fun _ => rfl) (fun u_ H locs hw hP hD hS => ?_)
                    obtain ⟨Bt_18, Bi_19, Bf_20⟩ := u_
                    have hP : va_P D vwCl (wdBP ad ck Pd Pm Ps Pg Pj Bt_18 Bi_19 Bf_20 Br) H := hP
                    have hD : va_D A (wdBP ad ck Pd Pm Ps Pg Pj Bt_18 Bi_19 Bf_20 Br) := hD
                    obtain ⟨v21, ev21⟩ : ∃ y : Int32, y = x5 + 1 := ⟨_, rfl⟩
                    have hw := gq_at1 hw ev21
                    refine lv_iinc (v := v21) (lv' := [(7, .int v21), (8, .int r13), (0, .ref (ad 4)), (1, .ref (ad 1)), (2, .int p2), (3, .int p3), (4, .int p4), (5, .int p5), (6, .int v3)]) hx hb dX3_walkOn_125 hl (k := 8) rfl (by rw [ev21]; rfl) (by decide) rfl (fun ls hl => ?_)
                    refine lv_goto (tgt := 36) hx hb dX3_walkOn_128 (by decide) ?_
                    exact ih v21 Bt_18 Bi_19 Bf_20 _ _ hw hP hD hS ls (lv_sub hl [2, 3, 4, 5, 6, 7, 8, 0] rfl)
                  · have hw := gq_f c16 hw
                    refine lv_aload_n hx hb dX3_walkOn_88 rfl (lv_at hl 1 rfl) ?_
                    refine lv_iload hx hb dX3_walkOn_89 (lv_at hl 0 rfl) ?_
                    refine lv_iload hx hb dX3_walkOn_91 (lv_at hl 6 rfl) ?_
                    refine lv_iload hx hb dX3_walkOn_93 (lv_at hl 8 rfl) ?_
                    refine gq_calli (wsN := fun _ => (wdBP ad ck Pd Pm Ps Pg Pj Bt_6 Bi_7 Bf_8 Br)) (va_runSN (As := [.int x5]) (rest := [.int p5, .int r13, .ref (ad 4)]) ⟨hx, hb, hml, hown, hts⟩ (c_X4_setOf l D H.size x5 _ hw) ⟨va_cnB 1 hts gX3_walkOn_X4_setOf_n46 rfl rfl rfl (hnw _ (List.mem_of_getElem? (i := 10) rfl)) (hts (.initialized RX4) (by decide +kernel)) (by decide +kernel) ⟨show 0 + 1 ≤ 2 + (d + 1) by omega, show 8 + (1 + 11) + 0 ≤ 42 + 28 * (d + 1) by omega⟩, hts (.static yX4_setOf) (by decide +kernel), trivial⟩ (gq_preS hK [] rfl hP hD [] rfl rfl hnw) rfl rfl hl.1 rfl (lv_room (Nat.le_of_ble_eq_true rfl)) dX3_walkOn_95 ⟨Nat.zero_le _, Nat.zero_le _⟩) hP hD hS hA [] [0, 1, 2, 3, 4, 5] rfl rfl rfl (by decide) [0, 1, 2, 3, 4, 5] rfl (fun _ => rfl) (fun r22 _ H locs hw hP hD hS => ?_)
                    refine lv_ior hx hb dX3_walkOn_98 ?_
                    refine gq_callv (wsN := fun u => (wdBP ad ck Pd Pm Ps Pg Pj u.1 u.2.1 u.2.2 Br)) (va_runV (As := [.int r13, .int (p5 ||| r22)]) (rest := []) ⟨hx, hb, hml, hown, hts⟩ (c_X3_writeDown l D ad ck H.size Bt_6 Bi_7 Bf_8 Br r13 (p5 ||| r22) _ hw) (cwV 2 hts gX3_walkOn_X3_writeDown rfl rfl rfl (by decide +kernel) ⟨show 0 + 1 ≤ 2 + (d + 1) by omega, show 8 + (3 + 11) + 0 ≤ 42 + 28 * (d + 1) by omega⟩) (gq_preV hK [0, 1] rfl hP hD [0, 1, 2] rfl rfl hnw 3 0 rfl rfl) rfl rfl hl.1 rfl (lv_room (Nat.le_of_ble_eq_true rfl)) dX3_walkOn_99 ⟨Nat.zero_le _, Nat.zero_le _⟩) hP hD hS hA [0, 1, 2] [3, 4, 5] rfl rfl rfl (by decide) [3, 4, 5, 0, 1, 2] rfl (fun _ => rfl) (fun u_ H locs hw hP hD hS => ?_)
                    obtain ⟨Bt_23, Bi_24, Bf_25⟩ := u_
                    have hP : va_P D vwCl (wdBP ad ck Pd Pm Ps Pg Pj Bt_23 Bi_24 Bf_25 Br) H := hP
                    have hD : va_D A (wdBP ad ck Pd Pm Ps Pg Pj Bt_23 Bi_24 Bf_25 Br) := hD
                    refine lv_goto (tgt := 125) hx hb dX3_walkOn_102 (by decide) ?_
                    obtain ⟨v26, ev26⟩ : ∃ y : Int32, y = x5 + 1 := ⟨_, rfl⟩
                    have hw := gq_at1 hw ev26
                    refine lv_iinc (v := v26) (lv' := [(7, .int v26), (8, .int r13), (0, .ref (ad 4)), (1, .ref (ad 1)), (2, .int p2), (3, .int p3), (4, .int p4), (5, .int p5), (6, .int v3)]) hx hb dX3_walkOn_125 hl (k := 8) rfl (by rw [ev26]; rfl) (by decide) rfl (fun ls hl => ?_)
                    refine lv_goto (tgt := 36) hx hb dX3_walkOn_128 (by decide) ?_
                    exact ih v26 Bt_23 Bi_24 Bf_25 _ _ hw hP hD hS ls (lv_sub hl [2, 3, 4, 5, 6, 7, 8, 0] rfl)
                · have hw := gq_t c12 hw
                  refine lv_goto (tgt := 125) hx hb dX3_walkOn_63 (by decide) ?_
                  obtain ⟨v27, ev27⟩ : ∃ y : Int32, y = x5 + 1 := ⟨_, rfl⟩
                  have hw := gq_at1 hw ev27
                  refine lv_iinc (v := v27) (lv' := [(7, .int v27), (0, .ref (ad 4)), (1, .ref (ad 1)), (2, .int p2), (3, .int p3), (4, .int p4), (5, .int p5), (6, .int v3)]) hx hb dX3_walkOn_125 hl (k := 7) rfl (by rw [ev27]; rfl) (by decide) rfl (fun ls hl => ?_)
                  refine lv_goto (tgt := 36) hx hb dX3_walkOn_128 (by decide) ?_
                  exact ih v27 Bt_6 Bi_7 Bf_8 _ _ hw hP hD hS ls (lv_sub hl [1, 2, 3, 4, 5, 6, 7, 0] rfl)
        obtain ⟨n, hw⟩ := hw
        exact hL36 n 0 Bt Bi Bf _ _ hw hP hD hS ls (lv_sub hl [2, 3, 4, 5, 6, 7, 1, 0] rfl)
      · have hw := gq_t c4 hw
        refine lv_iload hx hb dX3_walkOn_24 (lv_at hl 0 rfl) ?_
        refine lv_aload_n hx hb dX3_walkOn_26 rfl (lv_at hl 2 rfl) ?_
        refine gq_calli (wsN := fun _ => (wdBP ad ck Pd Pm Ps Pg Pj Bt Bi Bf Br)) (va_runV (As := []) (rest := [.int v3]) ⟨hx, hb, hml, hown, hts⟩ (c_X0_jewelSet l D ad ck H.size Pd Pm Ps Pg Pj  _ hw) (cwV 0 hts gX3_walkOn_X0_jewelSet rfl rfl rfl (by decide +kernel) ⟨show 0 + 1 ≤ 2 + (d + 1) by omega, show 8 + (1 + 11) + 0 ≤ 42 + 28 * (d + 1) by omega⟩) (gq_preV hK [2, 3] rfl hP hD [3, 4, 5] rfl rfl hnw 0 0 rfl rfl) rfl rfl hl.1 rfl (lv_room (Nat.le_of_ble_eq_true rfl)) dX3_walkOn_27 ⟨Nat.zero_le _, Nat.zero_le _⟩) hP hD hS hA [3, 4, 5] [0, 1, 2] rfl rfl rfl (by decide) [0, 1, 2, 3, 4, 5] rfl (fun _ => rfl) (fun r28 _ H locs hw hP hD hS => ?_)
        refine lv_iand hx hb dX3_walkOn_30 ?_
        refine lv_topi (fun v29 ev29 => ?_)
        have hw := gq_at1 hw ev29
        refine lv_istore (lv' := [(6, .int v29), (0, .ref (ad 4)), (1, .ref (ad 1)), (2, .int p2), (3, .int p3), (4, .int p4), (5, .int p5)]) hx hb dX3_walkOn_31 hl (by decide) rfl (fun ls hl => ?_)
        refine lv_iconst (v := 0) hx hb dX3_walkOn_33 (by decide) ?_
        refine lv_istore (lv' := [(7, .int 0), (6, .int v29), (0, .ref (ad 4)), (1, .ref (ad 1)), (2, .int p2), (3, .int p3), (4, .int p4), (5, .int p5)]) hx hb dX3_walkOn_34 hl (by decide) rfl (fun ls hl => ?_)
        have hL36 : ∀ (n : Nat) (x30 : Int32) (Bt_31 : Nat → Int32) (Bi_32 : Nat → Int32) (Bf_33 : Int32) (H : Heap) (locs : List Loc), wl_X3_walkOn_36 p3 p4 p5 Pd Ps Pj v29 (wp_X3_walkOn d) post n x30 Bt_31 Bi_32 Bf_33 → va_P D vwCl (wdBP ad ck Pd Pm Ps Pg Pj Bt_31 Bi_32 Bf_33 Br) H → va_D A (wdBP ad ck Pd Pm Ps Pg Pj Bt_31 Bi_32 Bf_33 Br) → va_S A s.heap H locs → ∀ ls : Array Slot, lv_has ls 9 [(0, .ref (ad 4)), (1, .ref (ad 1)), (2, .int p2), (3, .int p3), (4, .int p4), (5, .int p5), (6, .int v29), (7, .int x30)] → W p l e { frames := 2 + (d + 1), cells := 0, slots := 0, locals := 42 + 28 * (d + 1) } s m ([.ref (ad 4), .ref (ad 1), .int p2, .int p3, .int p4, .int p5] : List Value).toArray below meth c H locs 0 0 Q (F0 m 36 ls []) := by
          intro n
          induction n with
          | zero =>
            intro x30 Bt_31 Bi_32 Bf_33 H locs hw
            exact hw.elim
          | succ n ih =>
            intro x30 Bt_31 Bi_32 Bf_33 H locs hw hP hD hS ls hl
            refine lv_iload hx hb dX3_walkOn_36 (lv_at hl 7 rfl) ?_
            refine lv_bipush (v := 9) hx hb dX3_walkOn_38 (by decide) ?_
            refine lv_icmp_ge (tgt := 131) hx hb dX3_walkOn_40 (by decide) (fun c34 => ?_) (fun c34 => ?_)
            · have hw := gq_t c34 hw
              exact hz (Bt_31, Bi_32, Bf_33) _ _ _ _ dX3_walkOn_131 hw hP hD hS
            · have hw := gq_f c34 hw
              refine lv_aload_n hx hb dX3_walkOn_43 rfl (lv_at hl 0 rfl) ?_
              refine va_get (D := D) (ci := 3) (v := .int Bf_33) (C := RX3) (T := TX3) (N := 4) hx hb hts iX3_walkOn_X3 hown hK hP 0 rfl rfl 2 (by decide) (hts (.fieldLink RX3 22 "DecoyHouse$WayBook" "found" "I") (by decide +kernel)) (fun _ h9 => h9) rfl dX3_walkOn_44 ?_
              refine lv_sipush (v := 2000) hx hb dX3_walkOn_47 (by decide) ?_
              refine lv_icmp_gt (tgt := 131) hx hb dX3_walkOn_50 (by decide) (fun c35 => ?_) (fun c35 => ?_)
              · have hw := gq_t c35 hw
                exact hz (Bt_31, Bi_32, Bf_33) _ _ _ _ dX3_walkOn_131 hw hP hD hS
              · have hw := gq_f c35 hw
                refine lv_iload hx hb dX3_walkOn_53 (lv_at hl 6 rfl) ?_
                refine lv_iload hx hb dX3_walkOn_55 (lv_at hl 7 rfl) ?_
                refine gq_calli (wsN := fun _ => (wdBP ad ck Pd Pm Ps Pg Pj Bt_31 Bi_32 Bf_33 Br)) (va_runSN (As := [.int v29, .int x30]) (rest := []) ⟨hx, hb, hml, hown, hts⟩ (c_X4_has l D H.size v29 x30 _ hw) ⟨va_cnB 2 hts gX3_walkOn_X4_has_n38 rfl rfl rfl (hnw _ (List.mem_of_getElem? (i := 8) rfl)) (hts (.initialized RX4) (by decide +kernel)) (by decide +kernel) ⟨show 0 + 1 ≤ 2 + (d + 1) by omega, show 8 + (2 + 11) + 0 ≤ 42 + 28 * (d + 1) by omega⟩, hts (.static yX4_has) (by decide +kernel), trivial⟩ (gq_preS hK [] rfl hP hD [] rfl rfl hnw) rfl rfl hl.1 rfl (lv_room (Nat.le_of_ble_eq_true rfl)) dX3_walkOn_57 ⟨Nat.zero_le _, Nat.zero_le _⟩) hP hD hS hA [] [0, 1, 2, 3, 4, 5] rfl rfl rfl (by decide) [0, 1, 2, 3, 4, 5] rfl (fun _ => rfl) (fun r36 _ H locs hw hP hD hS => ?_)
                refine lv_if_ne (tgt := 66) hx hb dX3_walkOn_60 (by decide) (fun c37 => ?_) (fun c37 => ?_)
                · have hw := gq_f c37 hw
                  refine lv_iload hx hb dX3_walkOn_66 (lv_at hl 4 rfl) ?_
                  refine lv_iload_n hx hb dX3_walkOn_68 rfl (lv_at hl 3 rfl) ?_
                  refine lv_iload hx hb dX3_walkOn_69 (lv_at hl 7 rfl) ?_
                  refine gq_calli (wsN := fun _ => (wdBP ad ck Pd Pm Ps Pg Pj Bt_31 Bi_32 Bf_33 Br)) (va_runSN (As := [.int p4, .int p3, .int x30]) (rest := []) ⟨hx, hb, hml, hown, hts⟩ (c_X4_withPlace l D H.size p4 p3 x30 _ hw) ⟨va_cnB 3 hts gX3_walkOn_X4_withPlace_n42 rfl rfl rfl (hnw _ (List.mem_of_getElem? (i := 9) rfl)) (hts (.initialized RX4) (by decide +kernel)) (by decide +kernel) ⟨show 0 + 1 ≤ 2 + (d + 1) by omega, show 8 + (3 + 11) + 0 ≤ 42 + 28 * (d + 1) by omega⟩, hts (.static yX4_withPlace) (by decide +kernel), trivial⟩ (gq_preS hK [] rfl hP hD [] rfl rfl hnw) rfl rfl hl.1 rfl (lv_room (Nat.le_of_ble_eq_true rfl)) dX3_walkOn_71 ⟨Nat.zero_le _, Nat.zero_le _⟩) hP hD hS hA [] [0, 1, 2, 3, 4, 5] rfl rfl rfl (by decide) [0, 1, 2, 3, 4, 5] rfl (fun _ => rfl) (fun r38 _ H locs hw hP hD hS => ?_)
                  refine lv_istore (lv' := [(8, .int r38), (0, .ref (ad 4)), (1, .ref (ad 1)), (2, .int p2), (3, .int p3), (4, .int p4), (5, .int p5), (6, .int v29), (7, .int x30)]) hx hb dX3_walkOn_74 hl (by decide) rfl (fun ls hl => ?_)
                  refine lv_aload_n hx hb dX3_walkOn_76 rfl (lv_at hl 2 rfl) ?_
                  refine gq_calli (wsN := fun _ => (wdBP ad ck Pd Pm Ps Pg Pj Bt_31 Bi_32 Bf_33 Br)) (va_runV (As := []) (rest := []) ⟨hx, hb, hml, hown, hts⟩ (c_X0_jewelSet l D ad ck H.size Pd Pm Ps Pg Pj  _ hw) (cwV 0 hts gX3_walkOn_X0_jewelSet rfl rfl rfl (by decide +kernel) ⟨show 0 + 1 ≤ 2 + (d + 1) by omega, show 8 + (1 + 11) + 0 ≤ 42 + 28 * (d + 1) by omega⟩) (gq_preV hK [2, 3] rfl hP hD [3, 4, 5] rfl rfl hnw 0 0 rfl rfl) rfl rfl hl.1 rfl (lv_room (Nat.le_of_ble_eq_true rfl)) dX3_walkOn_77 ⟨Nat.zero_le _, Nat.zero_le _⟩) hP hD hS hA [3, 4, 5] [0, 1, 2] rfl rfl rfl (by decide) [0, 1, 2, 3, 4, 5] rfl (fun _ => rfl) (fun r39 _ H locs hw hP hD hS => ?_)
                  refine lv_iload hx hb dX3_walkOn_80 (lv_at hl 8 rfl) ?_
                  refine gq_calli (wsN := fun _ => (wdBP ad ck Pd Pm Ps Pg Pj Bt_31 Bi_32 Bf_33 Br)) (va_runSN (As := [.int r39, .int x30]) (rest := []) ⟨hx, hb, hml, hown, hts⟩ (c_X4_has l D H.size r39 x30 _ hw) ⟨va_cnB 2 hts gX3_walkOn_X4_has_n38 rfl rfl rfl (hnw _ (List.mem_of_getElem? (i := 8) rfl)) (hts (.initialized RX4) (by decide +kernel)) (by decide +kernel) ⟨show 0 + 1 ≤ 2 + (d + 1) by omega, show 8 + (2 + 11) + 0 ≤ 42 + 28 * (d + 1) by omega⟩, hts (.static yX4_has) (by decide +kernel), trivial⟩ (gq_preS hK [] rfl hP hD [] rfl rfl hnw) rfl rfl hl.1 rfl (lv_room (Nat.le_of_ble_eq_true rfl)) dX3_walkOn_82 ⟨Nat.zero_le _, Nat.zero_le _⟩) hP hD hS hA [] [0, 1, 2, 3, 4, 5] rfl rfl rfl (by decide) [0, 1, 2, 3, 4, 5] rfl (fun _ => rfl) (fun r40 _ H locs hw hP hD hS => ?_)
                  refine lv_if_eq (tgt := 105) hx hb dX3_walkOn_85 (by decide) (fun c41 => ?_) (fun c41 => ?_)
                  · have hw := gq_t c41 hw
                    refine lv_aload_n hx hb dX3_walkOn_105 rfl (lv_at hl 1 rfl) ?_
                    refine lv_aload_n hx hb dX3_walkOn_106 rfl (lv_at hl 2 rfl) ?_
                    refine lv_iload hx hb dX3_walkOn_107 (lv_at hl 8 rfl) ?_
                    refine lv_iload_n hx hb dX3_walkOn_109 rfl (lv_at hl 4 rfl) ?_
                    refine lv_iconst (v := 1) hx hb dX3_walkOn_110 (by decide) ?_
                    refine lv_iadd hx hb dX3_walkOn_111 ?_
                    refine lv_iload hx hb dX3_walkOn_112 (lv_at hl 0 rfl) ?_
                    refine lv_iload hx hb dX3_walkOn_114 (lv_at hl 6 rfl) ?_
                    refine lv_iload hx hb dX3_walkOn_116 (lv_at hl 8 rfl) ?_
                    refine gq_calli (wsN := fun _ => (wdBP ad ck Pd Pm Ps Pg Pj Bt_31 Bi_32 Bf_33 Br)) (va_runSN (As := [.int x30]) (rest := [.int p5, .int r38, .int (p3 + 1), .int x30, .ref (ad 1), .ref (ad 4)]) ⟨hx, hb, hml, hown, hts⟩ (c_X4_setOf l D H.size x30 _ hw) ⟨va_cnB 1 hts gX3_walkOn_X4_setOf_n46 rfl rfl rfl (hnw _ (List.mem_of_getElem? (i := 10) rfl)) (hts (.initialized RX4) (by decide +kernel)) (by decide +kernel) ⟨show 0 + 1 ≤ 2 + (d + 1) by omega, show 8 + (1 + 11) + 0 ≤ 42 + 28 * (d + 1) by omega⟩, hts (.static yX4_setOf) (by decide +kernel), trivial⟩ (gq_preS hK [] rfl hP hD [] rfl rfl hnw) rfl rfl hl.1 rfl (lv_room (Nat.le_of_ble_eq_true rfl)) dX3_walkOn_118 ⟨Nat.zero_le _, Nat.zero_le _⟩) hP hD hS hA [] [0, 1, 2, 3, 4, 5] rfl rfl rfl (by decide) [0, 1, 2, 3, 4, 5] rfl (fun _ => rfl) (fun r42 _ H locs hw hP hD hS => ?_)
                    refine lv_ior hx hb dX3_walkOn_121 ?_
                    refine gq_callv (wsN := fun u => (wdBP ad ck Pd Pm Ps Pg Pj u.1 u.2.1 u.2.2 Br)) (va_runV (As := [.ref (ad 1), .int x30, .int (p3 + 1), .int r38, .int (p5 ||| r42)]) (rest := []) ⟨hx, hb, hml, hown, hts⟩ (ihd H.size Pd Pm Ps Pg Pj Bt_31 Bi_32 Bf_33 Br x30 (p3 + 1) r38 (p5 ||| r42) _ hw) (cwV 5 hts gX3_walkOn_X3_walkOn rfl rfl rfl (by decide +kernel) ⟨show 2 + d + 1 ≤ 2 + (d + 1) by omega, show 8 + (9 + 11) + (42 + 28 * d) ≤ 42 + 28 * (d + 1) by omega⟩) (gq_preV hK [0, 1, 2, 3] rfl hP hD [0, 1, 2, 3, 4, 5] rfl rfl hnw 3 0 rfl rfl) rfl rfl hl.1 rfl (lv_room (Nat.le_of_ble_eq_true rfl)) dX3_walkOn_122 ⟨Nat.zero_le _, Nat.zero_le _⟩) hP hD hS hA [0, 1, 2, 3, 4, 5] [] rfl rfl rfl (by decide) [0, 1, 2, 3, 4, 5] rfl (fun _ => rfl) (fun u_ H locs hw hP hD hS => ?_)
                    obtain ⟨Bt_43, Bi_44, Bf_45⟩ := u_
                    have hP : va_P D vwCl (wdBP ad ck Pd Pm Ps Pg Pj Bt_43 Bi_44 Bf_45 Br) H := hP
                    have hD : va_D A (wdBP ad ck Pd Pm Ps Pg Pj Bt_43 Bi_44 Bf_45 Br) := hD
                    obtain ⟨v46, ev46⟩ : ∃ y : Int32, y = x30 + 1 := ⟨_, rfl⟩
                    have hw := gq_at1 hw ev46
                    refine lv_iinc (v := v46) (lv' := [(7, .int v46), (8, .int r38), (0, .ref (ad 4)), (1, .ref (ad 1)), (2, .int p2), (3, .int p3), (4, .int p4), (5, .int p5), (6, .int v29)]) hx hb dX3_walkOn_125 hl (k := 8) rfl (by rw [ev46]; rfl) (by decide) rfl (fun ls hl => ?_)
                    refine lv_goto (tgt := 36) hx hb dX3_walkOn_128 (by decide) ?_
                    exact ih v46 Bt_43 Bi_44 Bf_45 _ _ hw hP hD hS ls (lv_sub hl [2, 3, 4, 5, 6, 7, 8, 0] rfl)
                  · have hw := gq_f c41 hw
                    refine lv_aload_n hx hb dX3_walkOn_88 rfl (lv_at hl 1 rfl) ?_
                    refine lv_iload hx hb dX3_walkOn_89 (lv_at hl 0 rfl) ?_
                    refine lv_iload hx hb dX3_walkOn_91 (lv_at hl 6 rfl) ?_
                    refine lv_iload hx hb dX3_walkOn_93 (lv_at hl 8 rfl) ?_
                    refine gq_calli (wsN := fun _ => (wdBP ad ck Pd Pm Ps Pg Pj Bt_31 Bi_32 Bf_33 Br)) (va_runSN (As := [.int x30]) (rest := [.int p5, .int r38, .ref (ad 4)]) ⟨hx, hb, hml, hown, hts⟩ (c_X4_setOf l D H.size x30 _ hw) ⟨va_cnB 1 hts gX3_walkOn_X4_setOf_n46 rfl rfl rfl (hnw _ (List.mem_of_getElem? (i := 10) rfl)) (hts (.initialized RX4) (by decide +kernel)) (by decide +kernel) ⟨show 0 + 1 ≤ 2 + (d + 1) by omega, show 8 + (1 + 11) + 0 ≤ 42 + 28 * (d + 1) by omega⟩, hts (.static yX4_setOf) (by decide +kernel), trivial⟩ (gq_preS hK [] rfl hP hD [] rfl rfl hnw) rfl rfl hl.1 rfl (lv_room (Nat.le_of_ble_eq_true rfl)) dX3_walkOn_95 ⟨Nat.zero_le _, Nat.zero_le _⟩) hP hD hS hA [] [0, 1, 2, 3, 4, 5] rfl rfl rfl (by decide) [0, 1, 2, 3, 4, 5] rfl (fun _ => rfl) (fun r47 _ H locs hw hP hD hS => ?_)
                    refine lv_ior hx hb dX3_walkOn_98 ?_
                    refine gq_callv (wsN := fun u => (wdBP ad ck Pd Pm Ps Pg Pj u.1 u.2.1 u.2.2 Br)) (va_runV (As := [.int r38, .int (p5 ||| r47)]) (rest := []) ⟨hx, hb, hml, hown, hts⟩ (c_X3_writeDown l D ad ck H.size Bt_31 Bi_32 Bf_33 Br r38 (p5 ||| r47) _ hw) (cwV 2 hts gX3_walkOn_X3_writeDown rfl rfl rfl (by decide +kernel) ⟨show 0 + 1 ≤ 2 + (d + 1) by omega, show 8 + (3 + 11) + 0 ≤ 42 + 28 * (d + 1) by omega⟩) (gq_preV hK [0, 1] rfl hP hD [0, 1, 2] rfl rfl hnw 3 0 rfl rfl) rfl rfl hl.1 rfl (lv_room (Nat.le_of_ble_eq_true rfl)) dX3_walkOn_99 ⟨Nat.zero_le _, Nat.zero_le _⟩) hP hD hS hA [0, 1, 2] [3, 4, 5] rfl rfl rfl (by decide) [3, 4, 5, 0, 1, 2] rfl (fun _ => rfl) (fun u_ H locs hw hP hD hS => ?_)
                    obtain ⟨Bt_48, Bi_49, Bf_50⟩ := u_
                    have hP : va_P D vwCl (wdBP ad ck Pd Pm Ps Pg Pj Bt_48 Bi_49 Bf_50 Br) H := hP
                    have hD : va_D A (wdBP ad ck Pd Pm Ps Pg Pj Bt_48 Bi_49 Bf_50 Br) := hD
                    refine lv_goto (tgt := 125) hx hb dX3_walkOn_102 (by decide) ?_
                    obtain ⟨v51, ev51⟩ : ∃ y : Int32, y = x30 + 1 := ⟨_, rfl⟩
                    have hw := gq_at1 hw ev51
                    refine lv_iinc (v := v51) (lv' := [(7, .int v51), (8, .int r38), (0, .ref (ad 4)), (1, .ref (ad 1)), (2, .int p2), (3, .int p3), (4, .int p4), (5, .int p5), (6, .int v29)]) hx hb dX3_walkOn_125 hl (k := 8) rfl (by rw [ev51]; rfl) (by decide) rfl (fun ls hl => ?_)
                    refine lv_goto (tgt := 36) hx hb dX3_walkOn_128 (by decide) ?_
                    exact ih v51 Bt_48 Bi_49 Bf_50 _ _ hw hP hD hS ls (lv_sub hl [2, 3, 4, 5, 6, 7, 8, 0] rfl)
                · have hw := gq_t c37 hw
                  refine lv_goto (tgt := 125) hx hb dX3_walkOn_63 (by decide) ?_
                  obtain ⟨v52, ev52⟩ : ∃ y : Int32, y = x30 + 1 := ⟨_, rfl⟩
                  have hw := gq_at1 hw ev52
                  refine lv_iinc (v := v52) (lv' := [(7, .int v52), (0, .ref (ad 4)), (1, .ref (ad 1)), (2, .int p2), (3, .int p3), (4, .int p4), (5, .int p5), (6, .int v29)]) hx hb dX3_walkOn_125 hl (k := 7) rfl (by rw [ev52]; rfl) (by decide) rfl (fun ls hl => ?_)
                  refine lv_goto (tgt := 36) hx hb dX3_walkOn_128 (by decide) ?_
                  exact ih v52 Bt_31 Bi_32 Bf_33 _ _ hw hP hD hS ls (lv_sub hl [1, 2, 3, 4, 5, 6, 7, 0] rfl)
        obtain ⟨n, hw⟩ := hw
        exact hL36 n 0 Bt Bi Bf _ _ hw hP hD hS ls (lv_sub hl [2, 3, 4, 5, 6, 7, 1, 0] rfl)
    · have hw := gq_f c1 hw
      exact hz (Bt, Bi, Bf) _ _ _ _ dX3_walkOn_6 hw hP hD hS
theorem c_X3_walkOn (l : Launch) (D : va_G) (ad : Nat → Nat) (ck : Nat → ClassId) (sz : Nat) (d : Nat) (Pd : Nat → Int32) (Pm : Nat → Int32) (Ps : Int32) (Pg : Int32) (Pj : Int32) (Bt : Nat → Int32) (Bi : Nat → Int32) (Bf : Int32) (Br : Int32) (p2 : Int32) (p3 : Int32) (p4 : Int32) (p5 : Int32) (post : (Nat → Int32) → (Nat → Int32) → Int32 → Prop) (hw : wp_X3_walkOn d p2 p3 p4 p5 Pd Ps Pj Bt Bi Bf post) : Met l yX3_walkOn wsX3_walkOn { frames := 2 + d, cells := 0, slots := 0, locals := 42 + 28 * d } (va_Pc [.ref (ad 4), .ref (ad 1), .int p2, .int p3, .int p4, .int p5] (gq_pre D (tyBP ck) (wdBP ad ck Pd Pm Ps Pg Pj Bt Bi Bf Br) sz)) (va_Qv (fun (u : (Nat → Int32) × (Nat → Int32) × Int32) => post u.1 u.2.1 u.2.2) (gq_at D (va_A (wdBP ad ck Pd Pm Ps Pg Pj Bt Bi Bf Br) sz) (fun (u : (Nat → Int32) × (Nat → Int32) × Int32) => (wdBP ad ck Pd Pm Ps Pg Pj u.1 u.2.1 u.2.2 Br))) (va_A (wdBP ad ck Pd Pm Ps Pg Pj Bt Bi Bf Br) sz)) 0 0 (va_A (wdBP ad ck Pd Pm Ps Pg Pj Bt Bi Bf Br) sz) := ca_X3_walkOn l D ad ck d sz Pd Pm Ps Pg Pj Bt Bi Bf Br p2 p3 p4 p5 post hw

def wl_X3_sumInside_10 (x1 : Int32)  (X53 : Int32 → (Nat → Int32) → Prop) : Nat → Int32 → (Nat → Int32) → Prop
  | 0, _, _ => False
  | n10 + 1, x4, Bi_5 => (if 512 ≤ x4 then X53 x4 Bi_5 else wp_X4_has x4 x1 (fun (r7 : Int32) => (if r7 = 0 then gq_nm (x4 + 1) (fun v9 : Int32 => wl_X3_sumInside_10 x1 X53 n10 v9 Bi_5) else vp_in x4 512 ∧ wp_X4_setOf x1 (fun (r10 : Int32) => vp_in (x4 &&& (r10 ^^^ (-1))) 512 ∧ vp_in x4 512 ∧ gq_nm (upd Bi_5 (x4).toNatClampNeg ((Bi_5 (x4).toNatClampNeg) + (Bi_5 ((x4 &&& (r10 ^^^ (-1)))).toNatClampNeg))) (fun Bi_11 : Nat → Int32 => gq_nm (x4 + 1) (fun v12 : Int32 => wl_X3_sumInside_10 x1 X53 n10 v12 Bi_11))))))

def wl_X3_sumInside_2    (post : (Nat → Int32) → Prop) : Nat → Int32 → (Nat → Int32) → Prop
  | 0, _, _ => False
  | n2 + 1, x1, Bi_2 => (if 9 ≤ x1 then post Bi_2 else ∃ k10, wl_X3_sumInside_10 x1 (fun (y13 : Int32) (Bi_14 : Nat → Int32) => gq_nm (x1 + 1) (fun v15 : Int32 => wl_X3_sumInside_2 post n2 v15 Bi_14)) k10 0 Bi_2)

def wp_X3_sumInside  (Bi : Nat → Int32) (post : (Nat → Int32) → Prop) : Prop :=
  ∃ k2, wl_X3_sumInside_2 post k2 0 Bi

theorem iX3_sumInside_X3 : ∀ w ∈ wsX30, w ∈ wsX3_sumInside := by decide +kernel
set_option maxHeartbeats 4000000 in
set_option maxRecDepth 100000 in
theorem c_X3_sumInside (l : Launch) (D : va_G) (ad : Nat → Nat) (ck : Nat → ClassId) (sz : Nat) (Bt : Nat → Int32) (Bi : Nat → Int32) (Bf : Int32) (Br : Int32)  (post : (Nat → Int32) → Prop) (hw : wp_X3_sumInside Bi post) : Met l yX3_sumInside wsX3_sumInside { frames := 1, cells := 0, slots := 0, locals := 21 } (va_Pc [.ref (ad 4)] (gq_pre D (tyB ck) (wdB ad ck Bt Bi Bf Br) sz)) (va_Qv (fun (u : (Nat → Int32)) => post u) (gq_at D (va_A (wdB ad ck Bt Bi Bf Br) sz) (fun (u : (Nat → Int32)) => (wdB ad ck Bt u Bf Br))) (va_A (wdB ad ck Bt Bi Bf Br) sz)) 0 0 (va_A (wdB ad ck Bt Bi Bf Br) sz) := by
  refine gq_metv (cc := cX3_sumInside) (maxL := 3) (lv := [(0, .ref (ad 4))]) (by decide) rfl (Nat.le_of_ble_eq_true rfl) rfl ?_
  intro p e s m below meth c A Q ls H locs hx hb hml hown hts hnw hA hK hP hD hS hl hz
  refine lv_iconst (v := 0) hx hb dX3_sumInside_0 (by decide) ?_
  refine lv_istore_n (lv' := [(1, .int 0), (0, .ref (ad 4))]) hx hb dX3_sumInside_1 rfl hl (by decide) rfl (fun ls hl => ?_)
  have hL2 : ∀ (n : Nat) (x1 : Int32) (Bi_2 : Nat → Int32) (H : Heap) (locs : List Loc), wl_X3_sumInside_2 post n x1 Bi_2 → va_P D vwCl (wdB ad ck Bt Bi_2 Bf Br) H → va_D A (wdB ad ck Bt Bi_2 Bf Br) → va_S A s.heap H locs → ∀ ls : Array Slot, lv_has ls 3 [(0, .ref (ad 4)), (1, .int x1)] → W p l e { frames := 1, cells := 0, slots := 0, locals := 21 } s m ([.ref (ad 4)] : List Value).toArray below meth c H locs 0 0 Q (F0 m 2 ls []) := by
    intro n
    induction n with
    | zero =>
      intro x1 Bi_2 H locs hw
      exact hw.elim
    | succ n ih =>
      intro x1 Bi_2 H locs hw hP hD hS ls hl
      refine lv_iload_n hx hb dX3_sumInside_2 rfl (lv_at hl 1 rfl) ?_
      refine lv_bipush (v := 9) hx hb dX3_sumInside_3 (by decide) ?_
      refine lv_icmp_ge (tgt := 59) hx hb dX3_sumInside_5 (by decide) (fun c3 => ?_) (fun c3 => ?_)
      · have hw := gq_t c3 hw
        exact hz Bi_2 _ _ _ _ dX3_sumInside_59 hw hP hD hS
      · have hw := gq_f c3 hw
        refine lv_iconst (v := 0) hx hb dX3_sumInside_8 (by decide) ?_
        refine lv_istore_n (lv' := [(2, .int 0), (0, .ref (ad 4)), (1, .int x1)]) hx hb dX3_sumInside_9 rfl hl (by decide) rfl (fun ls hl => ?_)
        have hL10 : ∀ (X53 : Int32 → (Nat → Int32) → Prop), (∀ (x4 : Int32) (Bi_5 : Nat → Int32) (H : Heap) (locs : List Loc), X53 x4 Bi_5 → va_P D vwCl (wdB ad ck Bt Bi_5 Bf Br) H → va_D A (wdB ad ck Bt Bi_5 Bf Br) → va_S A s.heap H locs → ∀ ls : Array Slot, lv_has ls 3 [(0, .ref (ad 4)), (1, .int x1), (2, .int x4)] → W p l e { frames := 1, cells := 0, slots := 0, locals := 21 } s m ([.ref (ad 4)] : List Value).toArray below meth c H locs 0 0 Q (F0 m 53 ls [])) → ∀ (n : Nat) (x4 : Int32) (Bi_5 : Nat → Int32) (H : Heap) (locs : List Loc), wl_X3_sumInside_10 x1 X53 n x4 Bi_5 → va_P D vwCl (wdB ad ck Bt Bi_5 Bf Br) H → va_D A (wdB ad ck Bt Bi_5 Bf Br) → va_S A s.heap H locs → ∀ ls : Array Slot, lv_has ls 3 [(0, .ref (ad 4)), (1, .int x1), (2, .int x4)] → W p l e { frames := 1, cells := 0, slots := 0, locals := 21 } s m ([.ref (ad 4)] : List Value).toArray below meth c H locs 0 0 Q (F0 m 10 ls []) := by
          intro X53 hX53
          intro n
          induction n with
          | zero =>
            intro x4 Bi_5 H locs hw
            exact hw.elim
          | succ n ih =>
            intro x4 Bi_5 H locs hw hP hD hS ls hl
            refine lv_iload_n hx hb dX3_sumInside_10 rfl (lv_at hl 2 rfl) ?_
            refine lv_sipush (v := 512) hx hb dX3_sumInside_11 (by decide) ?_
            refine lv_icmp_ge (tgt := 53) hx hb dX3_sumInside_14 (by decide) (fun c6 => ?_) (fun c6 => ?_)
            · have hw := gq_t c6 hw
              exact hX53 x4 Bi_5 _ _ hw hP hD hS ls (lv_sub hl [0, 1, 2] rfl)
            · have hw := gq_f c6 hw
              refine lv_iload_n hx hb dX3_sumInside_17 rfl (lv_at hl 2 rfl) ?_
              refine lv_iload_n hx hb dX3_sumInside_18 rfl (lv_at hl 1 rfl) ?_
              refine gq_calli (wsN := fun _ => (wdB ad ck Bt Bi_5 Bf Br)) (va_runSN (As := [.int x4, .int x1]) (rest := []) ⟨hx, hb, hml, hown, hts⟩ (c_X4_has l D H.size x4 x1 _ hw) ⟨va_cnB 2 hts gX3_sumInside_X4_has_n38 rfl rfl rfl (hnw _ (List.mem_of_getElem? (i := 8) rfl)) (hts (.initialized RX4) (by decide +kernel)) (by decide +kernel) ⟨Nat.le_of_ble_eq_true rfl, Nat.le_of_ble_eq_true rfl⟩, hts (.static yX4_has) (by decide +kernel), trivial⟩ (gq_preS hK [] rfl hP hD [] rfl rfl hnw) rfl rfl hl.1 rfl (lv_room (Nat.le_of_ble_eq_true rfl)) dX3_sumInside_19 ⟨Nat.zero_le _, Nat.zero_le _⟩) hP hD hS hA [] [0, 1, 2] rfl rfl rfl (by decide) [0, 1, 2] rfl (fun _ => rfl) (fun r7 _ H locs hw hP hD hS => ?_)
              refine lv_if_eq (tgt := 47) hx hb dX3_sumInside_22 (by decide) (fun c8 => ?_) (fun c8 => ?_)
              · have hw := gq_t c8 hw
                obtain ⟨v9, ev9⟩ : ∃ y : Int32, y = x4 + 1 := ⟨_, rfl⟩
                have hw := gq_at1 hw ev9
                refine lv_iinc (v := v9) (lv' := [(2, .int v9), (0, .ref (ad 4)), (1, .int x1)]) hx hb dX3_sumInside_47 hl (k := 2) rfl (by rw [ev9]; rfl) (by decide) rfl (fun ls hl => ?_)
                refine lv_goto (tgt := 10) hx hb dX3_sumInside_50 (by decide) ?_
                exact ih v9 Bi_5 _ _ hw hP hD hS ls (lv_sub hl [1, 2, 0] rfl)
              · have hw := gq_f c8 hw
                refine lv_aload_n hx hb dX3_sumInside_25 rfl (lv_at hl 0 rfl) ?_
                refine va_get (D := D) (ci := 3) (v := .ref (ad 6)) (C := RX3) (T := TX3) (N := 4) hx hb hts iX3_sumInside_X3 hown hK hP 0 rfl rfl 1 (by decide) (hts (.fieldLink RX3 15 "DecoyHouse$WayBook" "inside" "[I") (by decide +kernel)) (fun _ h9 => h9) rfl dX3_sumInside_26 ?_
                refine lv_iload_n hx hb dX3_sumInside_29 rfl (lv_at hl 2 rfl) ?_
                refine lv_dup2_11 hx hb dX3_sumInside_30 rfl rfl ?_
                refine va_iald hx hb hK hP 2 1 rfl rfl hw.1 dX3_sumInside_31 ?_
                have hw := hw.2
                refine lv_aload_n hx hb dX3_sumInside_32 rfl (lv_at hl 0 rfl) ?_
                refine va_get (D := D) (ci := 3) (v := .ref (ad 6)) (C := RX3) (T := TX3) (N := 4) hx hb hts iX3_sumInside_X3 hown hK hP 0 rfl rfl 1 (by decide) (hts (.fieldLink RX3 15 "DecoyHouse$WayBook" "inside" "[I") (by decide +kernel)) (fun _ h9 => h9) rfl dX3_sumInside_33 ?_
                refine lv_iload_n hx hb dX3_sumInside_36 rfl (lv_at hl 2 rfl) ?_
                refine lv_iload_n hx hb dX3_sumInside_37 rfl (lv_at hl 1 rfl) ?_
                refine gq_calli (wsN := fun _ => (wdB ad ck Bt Bi_5 Bf Br)) (va_runSN (As := [.int x1]) (rest := [.int x4, .ref (ad 6), .int (Bi_5 (x4).toNatClampNeg), .int x4, .ref (ad 6)]) ⟨hx, hb, hml, hown, hts⟩ (c_X4_setOf l D H.size x1 _ hw) ⟨va_cnB 1 hts gX3_sumInside_X4_setOf_n46 rfl rfl rfl (hnw _ (List.mem_of_getElem? (i := 10) rfl)) (hts (.initialized RX4) (by decide +kernel)) (by decide +kernel) ⟨Nat.le_of_ble_eq_true rfl, Nat.le_of_ble_eq_true rfl⟩, hts (.static yX4_setOf) (by decide +kernel), trivial⟩ (gq_preS hK [] rfl hP hD [] rfl rfl hnw) rfl rfl hl.1 rfl (lv_room (Nat.le_of_ble_eq_true rfl)) dX3_sumInside_38 ⟨Nat.zero_le _, Nat.zero_le _⟩) hP hD hS hA [] [0, 1, 2] rfl rfl rfl (by decide) [0, 1, 2] rfl (fun _ => rfl) (fun r10 _ H locs hw hP hD hS => ?_)
                refine lv_iconst (v := (-1)) hx hb dX3_sumInside_41 (by decide) ?_
                refine lv_ixor hx hb dX3_sumInside_42 ?_
                refine lv_iand hx hb dX3_sumInside_43 ?_
                refine va_iald hx hb hK hP 2 1 rfl rfl hw.1 dX3_sumInside_44 ?_
                have hw := hw.2
                refine lv_iadd hx hb dX3_sumInside_45 ?_
                refine va_iast hx hb hK hP hD hS 2 1 rfl rfl hw.1 dX3_sumInside_46 (fun H locs hP hD hS => ?_)
                obtain ⟨Bi_11, eBi_11⟩ : ∃ y : Nat → Int32, y = upd Bi_5 (x4).toNatClampNeg ((Bi_5 (x4).toNatClampNeg) + (Bi_5 ((x4 &&& (r10 ^^^ (-1)))).toNatClampNeg)) := ⟨_, rfl⟩
                have hw := gq_at1 hw.2 eBi_11
                have hP : va_P D vwCl (wdB ad ck Bt Bi_11 Bf Br) H := by rw [eBi_11]; exact hP
                have hD : va_D A (wdB ad ck Bt Bi_11 Bf Br) := by rw [eBi_11]; exact hD
                obtain ⟨v12, ev12⟩ : ∃ y : Int32, y = x4 + 1 := ⟨_, rfl⟩
                have hw := gq_at1 hw ev12
                refine lv_iinc (v := v12) (lv' := [(2, .int v12), (0, .ref (ad 4)), (1, .int x1)]) hx hb dX3_sumInside_47 hl (k := 2) rfl (by rw [ev12]; rfl) (by decide) rfl (fun ls hl => ?_)
                refine lv_goto (tgt := 10) hx hb dX3_sumInside_50 (by decide) ?_
                exact ih v12 Bi_11 _ _ hw hP hD hS ls (lv_sub hl [1, 2, 0] rfl)
        obtain ⟨n, hw⟩ := hw
        refine hL10 _ (fun y13 Bi_14 H locs hw hP hD hS ls hl => ?_) n 0 Bi_2 _ _ hw hP hD hS ls (lv_sub hl [1, 2, 0] rfl)
        obtain ⟨v15, ev15⟩ : ∃ y : Int32, y = x1 + 1 := ⟨_, rfl⟩
        have hw := gq_at1 hw ev15
        refine lv_iinc (v := v15) (lv' := [(1, .int v15), (0, .ref (ad 4)), (2, .int y13)]) hx hb dX3_sumInside_53 hl (k := 1) rfl (by rw [ev15]; rfl) (by decide) rfl (fun ls hl => ?_)
        refine lv_goto (tgt := 2) hx hb dX3_sumInside_56 (by decide) ?_
        exact ih v15 Bi_14 _ _ hw hP hD hS ls (lv_sub hl [1, 0] rfl)
  obtain ⟨n, hw⟩ := hw
  exact hL2 n 0 Bi _ _ hw hP hD hS ls (lv_sub hl [1, 0] rfl)

def wl_X3_readIfForgotten_23 (Pd : Nat → Int32) (Ps : Int32) (Pg : Int32) (Pj : Int32)  (X63 : Int32 → (Nat → Int32) → (Nat → Int32) → Int32 → Prop) : Nat → Int32 → (Nat → Int32) → (Nat → Int32) → Int32 → Prop
  | 0, _, _, _, _ => False
  | n23 + 1, x4, Bt_5, Bi_6, Bf_7 => (if 9 ≤ x4 then X63 x4 Bt_5 Bi_6 Bf_7 else wp_X0_gateSet Pg (fun (r9 : Int32) => wp_X4_has r9 x4 (fun (r10 : Int32) => (if r10 = 0 then gq_nm (x4 + 1) (fun v12 : Int32 => wl_X3_readIfForgotten_23 Pd Ps Pg Pj X63 n23 v12 Bt_5 Bi_6 Bf_7) else wp_X4_withPlace 0 0 x4 (fun (r13 : Int32) => wp_X4_setOf x4 (fun (r14 : Int32) => wp_X3_walkOn 6 x4 1 r13 r14 Pd Ps Pj Bt_5 Bi_6 Bf_7 (fun (Bt_15 : Nat → Int32) (Bi_16 : Nat → Int32) (Bf_17 : Int32) => gq_nm (x4 + 1) (fun v18 : Int32 => wl_X3_readIfForgotten_23 Pd Ps Pg Pj X63 n23 v18 Bt_15 Bi_16 Bf_17))))))))

def wp_X3_readIfForgotten  (Pd : Nat → Int32) (Ps : Int32) (Pg : Int32) (Pj : Int32) (Bt : Nat → Int32) (Bi : Nat → Int32) (Bf : Int32) (Br : Int32) (post : (Nat → Int32) → (Nat → Int32) → Int32 → Int32 → Prop) : Prop :=
  (if Br = 0 then gq_nm (gq_fill 512 Bi 0) (fun Bi_2 : Nat → Int32 => ∃ k23, wl_X3_readIfForgotten_23 Pd Ps Pg Pj (fun (y19 : Int32) (Bt_20 : Nat → Int32) (Bi_21 : Nat → Int32) (Bf_22 : Int32) => wp_X3_sumInside Bi_21 (fun (Bi_23 : Nat → Int32) => post Bt_20 Bi_23 Bf_22 1)) k23 0 Bt Bi_2 0) else post Bt Bi Bf Br)

theorem iX3_readIfForgotten_X3 : ∀ w ∈ wsX30, w ∈ wsX3_readIfForgotten := by decide +kernel
set_option maxHeartbeats 4000000 in
set_option maxRecDepth 100000 in
theorem c_X3_readIfForgotten (l : Launch) (D : va_G) (ad : Nat → Nat) (ck : Nat → ClassId) (sz : Nat) (Pd : Nat → Int32) (Pm : Nat → Int32) (Ps : Int32) (Pg : Int32) (Pj : Int32) (Bt : Nat → Int32) (Bi : Nat → Int32) (Bf : Int32) (Br : Int32)  (post : (Nat → Int32) → (Nat → Int32) → Int32 → Int32 → Prop) (hw : wp_X3_readIfForgotten Pd Ps Pg Pj Bt Bi Bf Br post) : Met l yX3_readIfForgotten wsX3_readIfForgotten { frames := 9, cells := 0, slots := 0, locals := 238 } (va_Pc [.ref (ad 4), .ref (ad 1)] (gq_pre D (tyBP ck) (wdBP ad ck Pd Pm Ps Pg Pj Bt Bi Bf Br) sz)) (va_Qv (fun (u : (Nat → Int32) × (Nat → Int32) × Int32 × Int32) => post u.1 u.2.1 u.2.2.1 u.2.2.2) (gq_at D (va_A (wdBP ad ck Pd Pm Ps Pg Pj Bt Bi Bf Br) sz) (fun (u : (Nat → Int32) × (Nat → Int32) × Int32 × Int32) => (wdBP ad ck Pd Pm Ps Pg Pj u.1 u.2.1 u.2.2.1 u.2.2.2))) (va_A (wdBP ad ck Pd Pm Ps Pg Pj Bt Bi Bf Br) sz)) 0 0 (va_A (wdBP ad ck Pd Pm Ps Pg Pj Bt Bi Bf Br) sz) := by
  refine gq_metv (cc := cX3_readIfForgotten) (maxL := 3) (lv := [(0, .ref (ad 4)), (1, .ref (ad 1))]) (by decide) rfl (Nat.le_of_ble_eq_true rfl) rfl ?_
  intro p e s m below meth c A Q ls H locs hx hb hml hown hts hnw hA hK hP hD hS hl hz
  refine lv_aload_n hx hb dX3_readIfForgotten_0 rfl (lv_at hl 0 rfl) ?_
  refine va_get (D := D) (ci := 3) (v := .int Br) (C := RX3) (T := TX3) (N := 4) hx hb hts iX3_readIfForgotten_X3 hown hK hP 0 rfl rfl 3 (by decide) (hts (.fieldLink RX3 18 "DecoyHouse$WayBook" "read" "Z") (by decide +kernel)) (fun _ h9 => h9) rfl dX3_readIfForgotten_1 ?_
  refine lv_if_eq (tgt := 8) hx hb dX3_readIfForgotten_4 (by decide) (fun c1 => ?_) (fun c1 => ?_)
  · have hw := gq_t c1 hw
    refine lv_aload_n hx hb dX3_readIfForgotten_8 rfl (lv_at hl 0 rfl) ?_
    refine lv_iconst (v := 0) hx hb dX3_readIfForgotten_9 (by decide) ?_
    refine va_put (D := D) (ci := 3) (v := .int 0) (ty := .int) (C := RX3) (T := TX3) (N := 4) hx hb hts iX3_readIfForgotten_X3 tyX3 tyX3_ok nmX3 hown hK hP hD hS 0 rfl rfl 2 (by decide) (hts (.fieldLink RX3 22 "DecoyHouse$WayBook" "found" "I") (by decide +kernel)) (fun _ h9 => h9) rfl (by decide +kernel) rfl rfl (Nat.le_of_ble_eq_true rfl) dX3_readIfForgotten_10 (fun H locs hP hD hS => ?_)
    have hP : va_P D vwCl (wdBP ad ck Pd Pm Ps Pg Pj Bt Bi 0 Br) H := hP
    have hD : va_D A (wdBP ad ck Pd Pm Ps Pg Pj Bt Bi 0 Br) := hD
    refine lv_aload_n hx hb dX3_readIfForgotten_13 rfl (lv_at hl 0 rfl) ?_
    refine va_get (D := D) (ci := 3) (v := .ref (ad 6)) (C := RX3) (T := TX3) (N := 4) hx hb hts iX3_readIfForgotten_X3 hown hK hP 0 rfl rfl 1 (by decide) (hts (.fieldLink RX3 15 "DecoyHouse$WayBook" "inside" "[I") (by decide +kernel)) (fun _ h9 => h9) rfl dX3_readIfForgotten_14 ?_
    refine lv_iconst (v := 0) hx hb dX3_readIfForgotten_17 (by decide) ?_
    refine gq_callv (wsN := fun u => (wdBP ad ck Pd Pm Ps Pg Pj Bt u 0 Br)) (va_runS (As := [.ref (ad 6), .int 0]) (rest := []) ⟨hx, hb, hml, hown, hts⟩ (c_J7_fill l D (ad 6) (ck 6) 512 H.size Bi 0 (by decide)) (va_cwS 2 hts gX3_readIfForgotten_J7_fill_53178 rfl rfl rfl (by decide +kernel) ⟨Nat.le_of_ble_eq_true rfl, Nat.le_of_ble_eq_true rfl⟩) (gq_preS hK [1] rfl hP hD [2] rfl rfl hnw) rfl rfl hl.1 rfl (lv_room (Nat.le_of_ble_eq_true rfl)) dX3_readIfForgotten_18 ⟨Nat.zero_le _, Nat.zero_le _⟩) hP hD hS hA [2] [0, 1, 3, 4, 5] rfl rfl rfl (by decide) [0, 1, 5, 2, 3, 4] rfl (fun _ => rfl) (fun Bi_2 H locs hf hP hD hS => ?_)
    have hw := gq_at1 hw hf
    have hP : va_P D vwCl (wdBP ad ck Pd Pm Ps Pg Pj Bt Bi_2 0 Br) H := hP
    have hD : va_D A (wdBP ad ck Pd Pm Ps Pg Pj Bt Bi_2 0 Br) := hD
    refine lv_iconst (v := 0) hx hb dX3_readIfForgotten_21 (by decide) ?_
    refine lv_istore_n (lv' := [(2, .int 0), (0, .ref (ad 4)), (1, .ref (ad 1))]) hx hb dX3_readIfForgotten_22 rfl hl (by decide) rfl (fun ls hl => ?_)
    have hL23 : ∀ (X63 : Int32 → (Nat → Int32) → (Nat → Int32) → Int32 → Prop), (∀ (x4 : Int32) (Bt_5 : Nat → Int32) (Bi_6 : Nat → Int32) (Bf_7 : Int32) (H : Heap) (locs : List Loc), X63 x4 Bt_5 Bi_6 Bf_7 → va_P D vwCl (wdBP ad ck Pd Pm Ps Pg Pj Bt_5 Bi_6 Bf_7 Br) H → va_D A (wdBP ad ck Pd Pm Ps Pg Pj Bt_5 Bi_6 Bf_7 Br) → va_S A s.heap H locs → ∀ ls : Array Slot, lv_has ls 3 [(0, .ref (ad 4)), (1, .ref (ad 1)), (2, .int x4)] → W p l e { frames := 9, cells := 0, slots := 0, locals := 238 } s m ([.ref (ad 4), .ref (ad 1)] : List Value).toArray below meth c H locs 0 0 Q (F0 m 63 ls [])) → ∀ (n : Nat) (x4 : Int32) (Bt_5 : Nat → Int32) (Bi_6 : Nat → Int32) (Bf_7 : Int32) (H : Heap) (locs : List Loc), wl_X3_readIfForgotten_23 Pd Ps Pg Pj X63 n x4 Bt_5 Bi_6 Bf_7 → va_P D vwCl (wdBP ad ck Pd Pm Ps Pg Pj Bt_5 Bi_6 Bf_7 Br) H → va_D A (wdBP ad ck Pd Pm Ps Pg Pj Bt_5 Bi_6 Bf_7 Br) → va_S A s.heap H locs → ∀ ls : Array Slot, lv_has ls 3 [(0, .ref (ad 4)), (1, .ref (ad 1)), (2, .int x4)] → W p l e { frames := 9, cells := 0, slots := 0, locals := 238 } s m ([.ref (ad 4), .ref (ad 1)] : List Value).toArray below meth c H locs 0 0 Q (F0 m 23 ls []) := by
      intro X63 hX63
      intro n
      induction n with
      | zero =>
        intro x4 Bt_5 Bi_6 Bf_7 H locs hw
        exact hw.elim
      | succ n ih =>
        intro x4 Bt_5 Bi_6 Bf_7 H locs hw hP hD hS ls hl
        refine lv_iload_n hx hb dX3_readIfForgotten_23 rfl (lv_at hl 2 rfl) ?_
        refine lv_bipush (v := 9) hx hb dX3_readIfForgotten_24 (by decide) ?_
        refine lv_icmp_ge (tgt := 63) hx hb dX3_readIfForgotten_26 (by decide) (fun c8 => ?_) (fun c8 => ?_)
        · have hw := gq_t c8 hw
          exact hX63 x4 Bt_5 Bi_6 Bf_7 _ _ hw hP hD hS ls (lv_sub hl [0, 1, 2] rfl)
        · have hw := gq_f c8 hw
          refine lv_aload_n hx hb dX3_readIfForgotten_29 rfl (lv_at hl 1 rfl) ?_
          refine gq_calli (wsN := fun _ => (wdBP ad ck Pd Pm Ps Pg Pj Bt_5 Bi_6 Bf_7 Br)) (va_runV (As := []) (rest := []) ⟨hx, hb, hml, hown, hts⟩ (c_X0_gateSet l D ad ck H.size Pd Pm Ps Pg Pj  _ hw) (cwV 0 hts gX3_readIfForgotten_X0_gateSet rfl rfl rfl (by decide +kernel) ⟨Nat.le_of_ble_eq_true rfl, Nat.le_of_ble_eq_true rfl⟩) (gq_preV hK [2, 3] rfl hP hD [3, 4, 5] rfl rfl hnw 0 0 rfl rfl) rfl rfl hl.1 rfl (lv_room (Nat.le_of_ble_eq_true rfl)) dX3_readIfForgotten_30 ⟨Nat.zero_le _, Nat.zero_le _⟩) hP hD hS hA [3, 4, 5] [0, 1, 2] rfl rfl rfl (by decide) [0, 1, 2, 3, 4, 5] rfl (fun _ => rfl) (fun r9 _ H locs hw hP hD hS => ?_)
          refine lv_iload_n hx hb dX3_readIfForgotten_33 rfl (lv_at hl 2 rfl) ?_
          refine gq_calli (wsN := fun _ => (wdBP ad ck Pd Pm Ps Pg Pj Bt_5 Bi_6 Bf_7 Br)) (va_runSN (As := [.int r9, .int x4]) (rest := []) ⟨hx, hb, hml, hown, hts⟩ (c_X4_has l D H.size r9 x4 _ hw) ⟨va_cnB 2 hts gX3_readIfForgotten_X4_has_n38 rfl rfl rfl (hnw _ (List.mem_of_getElem? (i := 8) rfl)) (hts (.initialized RX4) (by decide +kernel)) (by decide +kernel) ⟨Nat.le_of_ble_eq_true rfl, Nat.le_of_ble_eq_true rfl⟩, hts (.static yX4_has) (by decide +kernel), trivial⟩ (gq_preS hK [] rfl hP hD [] rfl rfl hnw) rfl rfl hl.1 rfl (lv_room (Nat.le_of_ble_eq_true rfl)) dX3_readIfForgotten_34 ⟨Nat.zero_le _, Nat.zero_le _⟩) hP hD hS hA [] [0, 1, 2, 3, 4, 5] rfl rfl rfl (by decide) [0, 1, 2, 3, 4, 5] rfl (fun _ => rfl) (fun r10 _ H locs hw hP hD hS => ?_)
          refine lv_if_eq (tgt := 57) hx hb dX3_readIfForgotten_37 (by decide) (fun c11 => ?_) (fun c11 => ?_)
          · have hw := gq_t c11 hw
            obtain ⟨v12, ev12⟩ : ∃ y : Int32, y = x4 + 1 := ⟨_, rfl⟩
            have hw := gq_at1 hw ev12
            refine lv_iinc (v := v12) (lv' := [(2, .int v12), (0, .ref (ad 4)), (1, .ref (ad 1))]) hx hb dX3_readIfForgotten_57 hl (k := 2) rfl (by rw [ev12]; rfl) (by decide) rfl (fun ls hl => ?_)
            refine lv_goto (tgt := 23) hx hb dX3_readIfForgotten_60 (by decide) ?_
            exact ih v12 Bt_5 Bi_6 Bf_7 _ _ hw hP hD hS ls (lv_sub hl [1, 2, 0] rfl)
          · have hw := gq_f c11 hw
            refine lv_aload_n hx hb dX3_readIfForgotten_40 rfl (lv_at hl 0 rfl) ?_
            refine lv_aload_n hx hb dX3_readIfForgotten_41 rfl (lv_at hl 1 rfl) ?_
            refine lv_iload_n hx hb dX3_readIfForgotten_42 rfl (lv_at hl 2 rfl) ?_
            refine lv_iconst (v := 1) hx hb dX3_readIfForgotten_43 (by decide) ?_
            refine lv_iconst (v := 0) hx hb dX3_readIfForgotten_44 (by decide) ?_
            refine lv_iconst (v := 0) hx hb dX3_readIfForgotten_45 (by decide) ?_
            refine lv_iload_n hx hb dX3_readIfForgotten_46 rfl (lv_at hl 2 rfl) ?_
            refine gq_calli (wsN := fun _ => (wdBP ad ck Pd Pm Ps Pg Pj Bt_5 Bi_6 Bf_7 Br)) (va_runSN (As := [.int 0, .int 0, .int x4]) (rest := [.int 1, .int x4, .ref (ad 1), .ref (ad 4)]) ⟨hx, hb, hml, hown, hts⟩ (c_X4_withPlace l D H.size 0 0 x4 _ hw) ⟨va_cnB 3 hts gX3_readIfForgotten_X4_withPlace_n42 rfl rfl rfl (hnw _ (List.mem_of_getElem? (i := 9) rfl)) (hts (.initialized RX4) (by decide +kernel)) (by decide +kernel) ⟨Nat.le_of_ble_eq_true rfl, Nat.le_of_ble_eq_true rfl⟩, hts (.static yX4_withPlace) (by decide +kernel), trivial⟩ (gq_preS hK [] rfl hP hD [] rfl rfl hnw) rfl rfl hl.1 rfl (lv_room (Nat.le_of_ble_eq_true rfl)) dX3_readIfForgotten_47 ⟨Nat.zero_le _, Nat.zero_le _⟩) hP hD hS hA [] [0, 1, 2, 3, 4, 5] rfl rfl rfl (by decide) [0, 1, 2, 3, 4, 5] rfl (fun _ => rfl) (fun r13 _ H locs hw hP hD hS => ?_)
            refine lv_iload_n hx hb dX3_readIfForgotten_50 rfl (lv_at hl 2 rfl) ?_
            refine gq_calli (wsN := fun _ => (wdBP ad ck Pd Pm Ps Pg Pj Bt_5 Bi_6 Bf_7 Br)) (va_runSN (As := [.int x4]) (rest := [.int r13, .int 1, .int x4, .ref (ad 1), .ref (ad 4)]) ⟨hx, hb, hml, hown, hts⟩ (c_X4_setOf l D H.size x4 _ hw) ⟨va_cnB 1 hts gX3_readIfForgotten_X4_setOf_n46 rfl rfl rfl (hnw _ (List.mem_of_getElem? (i := 10) rfl)) (hts (.initialized RX4) (by decide +kernel)) (by decide +kernel) ⟨Nat.le_of_ble_eq_true rfl, Nat.le_of_ble_eq_true rfl⟩, hts (.static yX4_setOf) (by decide +kernel), trivial⟩ (gq_preS hK [] rfl hP hD [] rfl rfl hnw) rfl rfl hl.1 rfl (lv_room (Nat.le_of_ble_eq_true rfl)) dX3_readIfForgotten_51 ⟨Nat.zero_le _, Nat.zero_le _⟩) hP hD hS hA [] [0, 1, 2, 3, 4, 5] rfl rfl rfl (by decide) [0, 1, 2, 3, 4, 5] rfl (fun _ => rfl) (fun r14 _ H locs hw hP hD hS => ?_)
            refine gq_callv (wsN := fun u => (wdBP ad ck Pd Pm Ps Pg Pj u.1 u.2.1 u.2.2 Br)) (va_runV (As := [.ref (ad 1), .int x4, .int 1, .int r13, .int r14]) (rest := []) ⟨hx, hb, hml, hown, hts⟩ (c_X3_walkOn l D ad ck H.size 6 Pd Pm Ps Pg Pj Bt_5 Bi_6 Bf_7 Br x4 1 r13 r14 _ hw) (cwV 5 hts gX3_readIfForgotten_X3_walkOn rfl rfl rfl (by decide +kernel) ⟨Nat.le_of_ble_eq_true rfl, Nat.le_of_ble_eq_true rfl⟩) (gq_preV hK [0, 1, 2, 3] rfl hP hD [0, 1, 2, 3, 4, 5] rfl rfl hnw 3 0 rfl rfl) rfl rfl hl.1 rfl (lv_room (Nat.le_of_ble_eq_true rfl)) dX3_readIfForgotten_54 ⟨Nat.zero_le _, Nat.zero_le _⟩) hP hD hS hA [0, 1, 2, 3, 4, 5] [] rfl rfl rfl (by decide) [0, 1, 2, 3, 4, 5] rfl (fun _ => rfl) (fun u_ H locs hw hP hD hS => ?_)
            obtain ⟨Bt_15, Bi_16, Bf_17⟩ := u_
            have hP : va_P D vwCl (wdBP ad ck Pd Pm Ps Pg Pj Bt_15 Bi_16 Bf_17 Br) H := hP
            have hD : va_D A (wdBP ad ck Pd Pm Ps Pg Pj Bt_15 Bi_16 Bf_17 Br) := hD
            obtain ⟨v18, ev18⟩ : ∃ y : Int32, y = x4 + 1 := ⟨_, rfl⟩
            have hw := gq_at1 hw ev18
            refine lv_iinc (v := v18) (lv' := [(2, .int v18), (0, .ref (ad 4)), (1, .ref (ad 1))]) hx hb dX3_readIfForgotten_57 hl (k := 2) rfl (by rw [ev18]; rfl) (by decide) rfl (fun ls hl => ?_)
            refine lv_goto (tgt := 23) hx hb dX3_readIfForgotten_60 (by decide) ?_
            exact ih v18 Bt_15 Bi_16 Bf_17 _ _ hw hP hD hS ls (lv_sub hl [1, 2, 0] rfl)
    obtain ⟨n, hw⟩ := hw
    refine hL23 _ (fun y19 Bt_20 Bi_21 Bf_22 H locs hw hP hD hS ls hl => ?_) n 0 Bt Bi_2 0 _ _ hw hP hD hS ls (lv_sub hl [1, 2, 0] rfl)
    refine lv_aload_n hx hb dX3_readIfForgotten_63 rfl (lv_at hl 0 rfl) ?_
    refine gq_callv (wsN := fun u => (wdBP ad ck Pd Pm Ps Pg Pj Bt_20 u Bf_22 Br)) (va_runV (As := []) (rest := []) ⟨hx, hb, hml, hown, hts⟩ (c_X3_sumInside l D ad ck H.size Bt_20 Bi_21 Bf_22 Br  _ hw) (cwV 0 hts gX3_readIfForgotten_X3_sumInside rfl rfl rfl (by decide +kernel) ⟨Nat.le_of_ble_eq_true rfl, Nat.le_of_ble_eq_true rfl⟩) (gq_preV hK [0, 1] rfl hP hD [0, 1, 2] rfl rfl hnw 3 0 rfl rfl) rfl rfl hl.1 rfl (lv_room (Nat.le_of_ble_eq_true rfl)) dX3_readIfForgotten_64 ⟨Nat.zero_le _, Nat.zero_le _⟩) hP hD hS hA [0, 1, 2] [3, 4, 5] rfl rfl rfl (by decide) [3, 4, 5, 0, 1, 2] rfl (fun _ => rfl) (fun Bi_23 H locs hw hP hD hS => ?_)
    have hP : va_P D vwCl (wdBP ad ck Pd Pm Ps Pg Pj Bt_20 Bi_23 Bf_22 Br) H := hP
    have hD : va_D A (wdBP ad ck Pd Pm Ps Pg Pj Bt_20 Bi_23 Bf_22 Br) := hD
    refine lv_aload_n hx hb dX3_readIfForgotten_67 rfl (lv_at hl 0 rfl) ?_
    refine lv_iconst (v := 1) hx hb dX3_readIfForgotten_68 (by decide) ?_
    refine va_put (D := D) (ci := 3) (v := .int 1) (ty := .boolean) (C := RX3) (T := TX3) (N := 4) hx hb hts iX3_readIfForgotten_X3 tyX3 tyX3_ok nmX3 hown hK hP hD hS 0 rfl rfl 3 (by decide) (hts (.fieldLink RX3 18 "DecoyHouse$WayBook" "read" "Z") (by decide +kernel)) (fun _ h9 => h9) rfl (by decide +kernel) rfl rfl (Nat.le_of_ble_eq_true rfl) dX3_readIfForgotten_69 (fun H locs hP hD hS => ?_)
    have hP : va_P D vwCl (wdBP ad ck Pd Pm Ps Pg Pj Bt_20 Bi_23 Bf_22 1) H := hP
    have hD : va_D A (wdBP ad ck Pd Pm Ps Pg Pj Bt_20 Bi_23 Bf_22 1) := hD
    exact hz (Bt_20, Bi_23, Bf_22, 1) _ _ _ _ dX3_readIfForgotten_72 hw hP hD hS
  · have hw := gq_f c1 hw
    exact hz (Bt, Bi, Bf, Br) _ _ _ _ dX3_readIfForgotten_7 hw hP hD hS

def wp_X3_count  (Bf : Int32) (post : Int32 → Prop) : Prop :=
  (if Bf ≤ 2000 then post Bf else post (-1))

theorem iX3_count_X3 : ∀ w ∈ wsX30, w ∈ wsX3_count := by decide +kernel
set_option maxHeartbeats 4000000 in
set_option maxRecDepth 100000 in
theorem c_X3_count (l : Launch) (D : va_G) (ad : Nat → Nat) (ck : Nat → ClassId) (sz : Nat) (Bt : Nat → Int32) (Bi : Nat → Int32) (Bf : Int32) (Br : Int32)  (post : Int32 → Prop) (hw : wp_X3_count Bf post) : Met l yX3_count wsX3_count { frames := 0, cells := 0, slots := 0, locals := 0 } (va_Pc [.ref (ad 4)] (gq_pre D (tyB ck) (wdB ad ck Bt Bi Bf Br) sz)) (va_Qi (fun (r : Int32) (_ : Unit) => post r ) (gq_at D (va_A (wdB ad ck Bt Bi Bf Br) sz) (fun (_ : Unit) => (wdB ad ck Bt Bi Bf Br))) (va_A (wdB ad ck Bt Bi Bf Br) sz)) 0 0 (va_A (wdB ad ck Bt Bi Bf Br) sz) := by
  refine gq_meti (cc := cX3_count) (maxL := 1) (lv := [(0, .ref (ad 4))]) (by decide) rfl (Nat.le_of_ble_eq_true rfl) rfl ?_
  intro p e s m below meth c A Q ls H locs hx hb hml hown hts hnw hA hK hP hD hS hl hz
  refine lv_aload_n hx hb dX3_count_0 rfl (lv_at hl 0 rfl) ?_
  refine va_get (D := D) (ci := 3) (v := .int Bf) (C := RX3) (T := TX3) (N := 4) hx hb hts iX3_count_X3 hown hK hP 0 rfl rfl 2 (by decide) (hts (.fieldLink RX3 22 "DecoyHouse$WayBook" "found" "I") (by decide +kernel)) (fun _ h9 => h9) rfl dX3_count_1 ?_
  refine lv_sipush (v := 2000) hx hb dX3_count_4 (by decide) ?_
  refine lv_icmp_le (tgt := 14) hx hb dX3_count_7 (by decide) (fun c1 => ?_) (fun c1 => ?_)
  · have hw := gq_t c1 hw
    refine lv_aload_n hx hb dX3_count_14 rfl (lv_at hl 0 rfl) ?_
    refine va_get (D := D) (ci := 3) (v := .int Bf) (C := RX3) (T := TX3) (N := 4) hx hb hts iX3_count_X3 hown hK hP 0 rfl rfl 2 (by decide) (hts (.fieldLink RX3 22 "DecoyHouse$WayBook" "found" "I") (by decide +kernel)) (fun _ h9 => h9) rfl dX3_count_15 ?_
    exact hz Bf () _ _ _ _ dX3_count_18 hw hP hD hS
  · have hw := gq_f c1 hw
    refine lv_iconst (v := (-1)) hx hb dX3_count_10 (by decide) ?_
    refine lv_goto (tgt := 18) hx hb dX3_count_11 (by decide) ?_
    exact hz (-1) () _ _ _ _ dX3_count_18 hw hP hD hS

def wp_X3_trail (p1 : Int32) (Bt : Nat → Int32) (Bf : Int32) (post : Int32 → Prop) : Prop :=
  (if p1 < 0 then post 0 else (if 2000 ≤ p1 then post 0 else (if Bf ≤ p1 then post 0 else vp_in p1 2000 ∧ post (Bt (p1).toNatClampNeg))))

theorem iX3_trail_X3 : ∀ w ∈ wsX30, w ∈ wsX3_trail := by decide +kernel
set_option maxHeartbeats 4000000 in
set_option maxRecDepth 100000 in
theorem c_X3_trail (l : Launch) (D : va_G) (ad : Nat → Nat) (ck : Nat → ClassId) (sz : Nat) (Bt : Nat → Int32) (Bi : Nat → Int32) (Bf : Int32) (Br : Int32) (p1 : Int32) (post : Int32 → Prop) (hw : wp_X3_trail p1 Bt Bf post) : Met l yX3_trail wsX3_trail { frames := 0, cells := 0, slots := 0, locals := 0 } (va_Pc [.ref (ad 4), .int p1] (gq_pre D (tyB ck) (wdB ad ck Bt Bi Bf Br) sz)) (va_Qi (fun (r : Int32) (_ : Unit) => post r ) (gq_at D (va_A (wdB ad ck Bt Bi Bf Br) sz) (fun (_ : Unit) => (wdB ad ck Bt Bi Bf Br))) (va_A (wdB ad ck Bt Bi Bf Br) sz)) 0 0 (va_A (wdB ad ck Bt Bi Bf Br) sz) := by
  refine gq_meti (cc := cX3_trail) (maxL := 2) (lv := [(0, .ref (ad 4)), (1, .int p1)]) (by decide) rfl (Nat.le_of_ble_eq_true rfl) rfl ?_
  intro p e s m below meth c A Q ls H locs hx hb hml hown hts hnw hA hK hP hD hS hl hz
  refine lv_iload_n hx hb dX3_trail_0 rfl (lv_at hl 1 rfl) ?_
  refine lv_if_lt (tgt := 28) hx hb dX3_trail_1 (by decide) (fun c1 => ?_) (fun c1 => ?_)
  · have hw := gq_t c1 hw
    refine lv_iconst (v := 0) hx hb dX3_trail_28 (by decide) ?_
    exact hz 0 () _ _ _ _ dX3_trail_29 hw hP hD hS
  · have hw := gq_f c1 hw
    refine lv_iload_n hx hb dX3_trail_4 rfl (lv_at hl 1 rfl) ?_
    refine lv_sipush (v := 2000) hx hb dX3_trail_5 (by decide) ?_
    refine lv_icmp_ge (tgt := 28) hx hb dX3_trail_8 (by decide) (fun c2 => ?_) (fun c2 => ?_)
    · have hw := gq_t c2 hw
      refine lv_iconst (v := 0) hx hb dX3_trail_28 (by decide) ?_
      exact hz 0 () _ _ _ _ dX3_trail_29 hw hP hD hS
    · have hw := gq_f c2 hw
      refine lv_iload_n hx hb dX3_trail_11 rfl (lv_at hl 1 rfl) ?_
      refine lv_aload_n hx hb dX3_trail_12 rfl (lv_at hl 0 rfl) ?_
      refine va_get (D := D) (ci := 3) (v := .int Bf) (C := RX3) (T := TX3) (N := 4) hx hb hts iX3_trail_X3 hown hK hP 0 rfl rfl 2 (by decide) (hts (.fieldLink RX3 22 "DecoyHouse$WayBook" "found" "I") (by decide +kernel)) (fun _ h9 => h9) rfl dX3_trail_13 ?_
      refine lv_icmp_ge (tgt := 28) hx hb dX3_trail_16 (by decide) (fun c3 => ?_) (fun c3 => ?_)
      · have hw := gq_t c3 hw
        refine lv_iconst (v := 0) hx hb dX3_trail_28 (by decide) ?_
        exact hz 0 () _ _ _ _ dX3_trail_29 hw hP hD hS
      · have hw := gq_f c3 hw
        refine lv_aload_n hx hb dX3_trail_19 rfl (lv_at hl 0 rfl) ?_
        refine va_get (D := D) (ci := 3) (v := .ref (ad 5)) (C := RX3) (T := TX3) (N := 4) hx hb hts iX3_trail_X3 hown hK hP 0 rfl rfl 0 (by decide) (hts (.fieldLink RX3 9 "DecoyHouse$WayBook" "trails" "[I") (by decide +kernel)) (fun _ h9 => h9) rfl dX3_trail_20 ?_
        refine lv_iload_n hx hb dX3_trail_23 rfl (lv_at hl 1 rfl) ?_
        refine va_iald hx hb hK hP 1 0 rfl rfl hw.1 dX3_trail_24 ?_
        have hw := hw.2
        refine lv_goto (tgt := 29) hx hb dX3_trail_25 (by decide) ?_
        exact hz (Bt (p1).toNatClampNeg) () _ _ _ _ dX3_trail_29 hw hP hD hS

def wp_X3_countTouchedBy (p1 : Int32) (Bi : Nat → Int32) (Bf : Int32) (post : Int32 → Prop) : Prop :=
  vp_in ((p1 ^^^ (-1)) &&& 511) 512 ∧ post (Bf - (Bi (((p1 ^^^ (-1)) &&& 511)).toNatClampNeg))

theorem iX3_countTouchedBy_X3 : ∀ w ∈ wsX30, w ∈ wsX3_countTouchedBy := by decide +kernel
set_option maxHeartbeats 4000000 in
set_option maxRecDepth 100000 in
theorem c_X3_countTouchedBy (l : Launch) (D : va_G) (ad : Nat → Nat) (ck : Nat → ClassId) (sz : Nat) (Bt : Nat → Int32) (Bi : Nat → Int32) (Bf : Int32) (Br : Int32) (p1 : Int32) (post : Int32 → Prop) (hw : wp_X3_countTouchedBy p1 Bi Bf post) : Met l yX3_countTouchedBy wsX3_countTouchedBy { frames := 0, cells := 0, slots := 0, locals := 0 } (va_Pc [.ref (ad 4), .int p1] (gq_pre D (tyB ck) (wdB ad ck Bt Bi Bf Br) sz)) (va_Qi (fun (r : Int32) (_ : Unit) => post r ) (gq_at D (va_A (wdB ad ck Bt Bi Bf Br) sz) (fun (_ : Unit) => (wdB ad ck Bt Bi Bf Br))) (va_A (wdB ad ck Bt Bi Bf Br) sz)) 0 0 (va_A (wdB ad ck Bt Bi Bf Br) sz) := by
  refine gq_meti (cc := cX3_countTouchedBy) (maxL := 2) (lv := [(0, .ref (ad 4)), (1, .int p1)]) (by decide) rfl (Nat.le_of_ble_eq_true rfl) rfl ?_
  intro p e s m below meth c A Q ls H locs hx hb hml hown hts hnw hA hK hP hD hS hl hz
  refine lv_aload_n hx hb dX3_countTouchedBy_0 rfl (lv_at hl 0 rfl) ?_
  refine va_get (D := D) (ci := 3) (v := .int Bf) (C := RX3) (T := TX3) (N := 4) hx hb hts iX3_countTouchedBy_X3 hown hK hP 0 rfl rfl 2 (by decide) (hts (.fieldLink RX3 22 "DecoyHouse$WayBook" "found" "I") (by decide +kernel)) (fun _ h9 => h9) rfl dX3_countTouchedBy_1 ?_
  refine lv_aload_n hx hb dX3_countTouchedBy_4 rfl (lv_at hl 0 rfl) ?_
  refine va_get (D := D) (ci := 3) (v := .ref (ad 6)) (C := RX3) (T := TX3) (N := 4) hx hb hts iX3_countTouchedBy_X3 hown hK hP 0 rfl rfl 1 (by decide) (hts (.fieldLink RX3 15 "DecoyHouse$WayBook" "inside" "[I") (by decide +kernel)) (fun _ h9 => h9) rfl dX3_countTouchedBy_5 ?_
  refine lv_iload_n hx hb dX3_countTouchedBy_8 rfl (lv_at hl 1 rfl) ?_
  refine lv_iconst (v := (-1)) hx hb dX3_countTouchedBy_9 (by decide) ?_
  refine lv_ixor hx hb dX3_countTouchedBy_10 ?_
  refine lv_sipush (v := 511) hx hb dX3_countTouchedBy_11 (by decide) ?_
  refine lv_iand hx hb dX3_countTouchedBy_14 ?_
  refine va_iald hx hb hK hP 2 1 rfl rfl hw.1 dX3_countTouchedBy_15 ?_
  have hw := hw.2
  refine lv_isub hx hb dX3_countTouchedBy_16 ?_
  exact hz (Bf - (Bi (((p1 ^^^ (-1)) &&& 511)).toNatClampNeg)) () _ _ _ _ dX3_countTouchedBy_17 hw hP hD hS

