def wp_X5_isPlace (p1 : Int32) (Mp : Int32) (post : Int32 → Prop) : Prop :=
  wp_X5_isIn p1 0 (Mp - 1) (fun (r1 : Int32) => gq_zb r1 ∧ post r1)

theorem iX5_isPlace_X5 : ∀ w ∈ wsX50, w ∈ wsX5_isPlace := by decide +kernel
set_option maxHeartbeats 4000000 in
set_option maxRecDepth 100000 in
theorem c_X5_isPlace (l : Launch) (D : va_G) (ad : Nat → Nat) (ck : Nat → ClassId) (sz : Nat) (Mp : Int32) (Mv : Int32) (Mb : Int32) (Me : Int32) (Md : Int32) (Mdo : Nat → Int32) (Mk : Nat → Int32) (Mm : Nat → Int32) (Mta : Nat → Int32) (Mkn : Nat → Int32) (Mti : Nat → Int32) (Mrl : Nat → Int32) (Mrr : Nat → Int32) (Mt : Nat → Int32) (Mn : Int32) (Mw : Nat → Int32) (Mwl : Nat → Int32) (Mws : Nat → Int32) (Mf : Int32) (Mpa : Nat → Int32) (Mne : Nat → Int32) (p1 : Int32) (post : Int32 → Prop) (hw : wp_X5_isPlace p1 Mp post) : Met l yX5_isPlace wsX5_isPlace { frames := 1, cells := 0, slots := 0, locals := 22 } (va_Pc [.ref (ad 16), .int p1] (gq_pre D (tyM ck) (wdM ad ck Mp Mv Mb Me Md Mdo Mk Mm Mta Mkn Mti Mrl Mrr Mt Mn Mw Mwl Mws Mf Mpa Mne) sz)) (va_Qi (fun (r : Int32) (_ : Unit) => post r ) (gq_at D (va_A (wdM ad ck Mp Mv Mb Me Md Mdo Mk Mm Mta Mkn Mti Mrl Mrr Mt Mn Mw Mwl Mws Mf Mpa Mne) sz) (fun (_ : Unit) => (wdM ad ck Mp Mv Mb Me Md Mdo Mk Mm Mta Mkn Mti Mrl Mrr Mt Mn Mw Mwl Mws Mf Mpa Mne))) (va_A (wdM ad ck Mp Mv Mb Me Md Mdo Mk Mm Mta Mkn Mti Mrl Mrr Mt Mn Mw Mwl Mws Mf Mpa Mne) sz)) 0 0 (va_A (wdM ad ck Mp Mv Mb Me Md Mdo Mk Mm Mta Mkn Mti Mrl Mrr Mt Mn Mw Mwl Mws Mf Mpa Mne) sz) := by
  refine gq_metz (cc := cX5_isPlace) (maxL := 2) (lv := [(0, .ref (ad 16)), (1, .int p1)]) (by decide) rfl (Nat.le_of_ble_eq_true rfl) rfl ?_
  intro p e s m below meth c A Q ls H locs hx hb hml hown hts hnw hA hK hP hD hS hl hz
  refine lv_iload_n hx hb dX5_isPlace_0 rfl (lv_at hl 1 rfl) ?_
  refine lv_iconst (v := 0) hx hb dX5_isPlace_1 (by decide) ?_
  refine lv_aload_n hx hb dX5_isPlace_2 rfl (lv_at hl 0 rfl) ?_
  refine va_get (D := D) (ci := 5) (v := .int Mp) (C := RX5) (T := TX5) (N := 21) hx hb hts iX5_isPlace_X5 hown hK hP 0 rfl rfl 0 (by decide) (hts (.fieldLink RX5 7 "DecoyHouseModel" "places" "I") (by decide +kernel)) (fun _ h9 => h9) rfl dX5_isPlace_3 ?_
  refine lv_iconst (v := 1) hx hb dX5_isPlace_6 (by decide) ?_
  refine lv_isub hx hb dX5_isPlace_7 ?_
  refine gq_calli (wsN := fun _ => (wdM ad ck Mp Mv Mb Me Md Mdo Mk Mm Mta Mkn Mti Mrl Mrr Mt Mn Mw Mwl Mws Mf Mpa Mne)) (va_runS (As := [.int p1, .int 0, .int (Mp - 1)]) (rest := []) ⟨hx, hb, hml, hown, hts⟩ (c_X5_isIn l D H.size p1 0 (Mp - 1) _ hw) (va_cwS 3 hts gX5_isPlace_X5_isIn rfl rfl rfl (by decide +kernel) ⟨Nat.le_of_ble_eq_true rfl, Nat.le_of_ble_eq_true rfl⟩) (gq_preS hK [] rfl hP hD [] rfl rfl hnw) rfl rfl hl.1 rfl (lv_room (Nat.le_of_ble_eq_true rfl)) dX5_isPlace_8 ⟨Nat.zero_le _, Nat.zero_le _⟩) hP hD hS hA [] [0, 1, 2, 3, 4, 5, 6, 7, 8, 9, 10, 11, 12, 13, 14] rfl rfl rfl (by decide) [0, 1, 2, 3, 4, 5, 6, 7, 8, 9, 10, 11, 12, 13, 14] rfl (fun _ => rfl) (fun r1 _ H locs hw hP hD hS => ?_)
  exact hz r1 () _ _ _ _ dX5_isPlace_11 hw.1 hw.2 hP hD hS

def wl_X5_house_46   (X65 : Int32 → (Nat → Int32) → Prop) : Nat → Int32 → (Nat → Int32) → Prop
  | 0, _, _ => False
  | n46 + 1, x3, Mdo_4 => (if 81 ≤ x3 then X65 x3 Mdo_4 else vp_in x3 81 ∧ gq_nm (upd Mdo_4 (x3).toNatClampNeg (vp_nar .boolean 0)) (fun Mdo_6 : Nat → Int32 => gq_nm (x3 + 1) (fun v7 : Int32 => wl_X5_house_46 X65 n46 v7 Mdo_6)))

def wl_X5_house_67   (X107 : Int32 → (Nat → Int32) → (Nat → Int32) → (Nat → Int32) → (Nat → Int32) → Prop) : Nat → Int32 → (Nat → Int32) → (Nat → Int32) → (Nat → Int32) → (Nat → Int32) → Prop
  | 0, _, _, _, _, _ => False
  | n67 + 1, x10, Mk_11, Mm_12, Mta_13, Mkn_14 => (if 9 ≤ x10 then X107 x10 Mk_11 Mm_12 Mta_13 Mkn_14 else vp_in x10 9 ∧ gq_nm (upd Mk_11 (x10).toNatClampNeg 0) (fun Mk_16 : Nat → Int32 => vp_in x10 9 ∧ gq_nm (upd Mm_12 (x10).toNatClampNeg 0) (fun Mm_17 : Nat → Int32 => vp_in x10 9 ∧ gq_nm (upd Mta_13 (x10).toNatClampNeg 0) (fun Mta_18 : Nat → Int32 => vp_in x10 9 ∧ gq_nm (upd Mkn_14 (x10).toNatClampNeg 0) (fun Mkn_19 : Nat → Int32 => gq_nm (x10 + 1) (fun v20 : Int32 => wl_X5_house_67 X107 n67 v20 Mk_16 Mm_17 Mta_18 Mkn_19))))))

def wl_X5_house_109 (p1 : Int32) (Mdo_9 : Nat → Int32) (Mk_22 : Nat → Int32) (Mm_23 : Nat → Int32) (Mta_24 : Nat → Int32) (Mkn_25 : Nat → Int32)   (post : Int32 → Int32 → Int32 → Int32 → Int32 → Int32 → (Nat → Int32) → (Nat → Int32) → (Nat → Int32) → (Nat → Int32) → (Nat → Int32) → (Nat → Int32) → (Nat → Int32) → Int32 → Prop) : Nat → Int32 → (Nat → Int32) → (Nat → Int32) → Prop
  | 0, _, _, _ => False
  | n109 + 1, x26, Mti_27, Mrl_28 => (if 6 ≤ x26 then post 1 p1 255 3 0 0 Mdo_9 Mk_22 Mm_23 Mta_24 Mkn_25 Mti_27 Mrl_28 0 else vp_in x26 6 ∧ gq_nm (upd Mti_27 (x26).toNatClampNeg 0) (fun Mti_30 : Nat → Int32 => vp_in x26 6 ∧ gq_nm (upd Mrl_28 (x26).toNatClampNeg 0) (fun Mrl_31 : Nat → Int32 => gq_nm (x26 + 1) (fun v32 : Int32 => wl_X5_house_109 p1 Mdo_9 Mk_22 Mm_23 Mta_24 Mkn_25 post n109 v32 Mti_30 Mrl_31))))

def wp_X5_house (p1 : Int32) (Mp : Int32) (Mv : Int32) (Mb : Int32) (Me : Int32) (Md : Int32) (Mdo : Nat → Int32) (Mk : Nat → Int32) (Mm : Nat → Int32) (Mta : Nat → Int32) (Mkn : Nat → Int32) (Mti : Nat → Int32) (Mrl : Nat → Int32) (Mn : Int32) (post : Int32 → Int32 → Int32 → Int32 → Int32 → Int32 → (Nat → Int32) → (Nat → Int32) → (Nat → Int32) → (Nat → Int32) → (Nat → Int32) → (Nat → Int32) → (Nat → Int32) → Int32 → Prop) : Prop :=
  wp_X5_isIn p1 2 9 (fun (r1 : Int32) => (if r1 = 0 then post 0 Mp Mv Mb Me Md Mdo Mk Mm Mta Mkn Mti Mrl Mn else ∃ k46, wl_X5_house_46 (fun (y8 : Int32) (Mdo_9 : Nat → Int32) => ∃ k67, wl_X5_house_67 (fun (y21 : Int32) (Mk_22 : Nat → Int32) (Mm_23 : Nat → Int32) (Mta_24 : Nat → Int32) (Mkn_25 : Nat → Int32) => ∃ k109, wl_X5_house_109 p1 Mdo_9 Mk_22 Mm_23 Mta_24 Mkn_25 post k109 0 Mti Mrl) k67 0 Mk Mm Mta Mkn) k46 0 Mdo))

theorem iX5_house_X5 : ∀ w ∈ wsX50, w ∈ wsX5_house := by decide +kernel
set_option maxHeartbeats 4000000 in
set_option maxRecDepth 100000 in
theorem c_X5_house (l : Launch) (D : va_G) (ad : Nat → Nat) (ck : Nat → ClassId) (sz : Nat) (Mp : Int32) (Mv : Int32) (Mb : Int32) (Me : Int32) (Md : Int32) (Mdo : Nat → Int32) (Mk : Nat → Int32) (Mm : Nat → Int32) (Mta : Nat → Int32) (Mkn : Nat → Int32) (Mti : Nat → Int32) (Mrl : Nat → Int32) (Mrr : Nat → Int32) (Mt : Nat → Int32) (Mn : Int32) (Mw : Nat → Int32) (Mwl : Nat → Int32) (Mws : Nat → Int32) (Mf : Int32) (Mpa : Nat → Int32) (Mne : Nat → Int32) (p1 : Int32) (post : Int32 → Int32 → Int32 → Int32 → Int32 → Int32 → (Nat → Int32) → (Nat → Int32) → (Nat → Int32) → (Nat → Int32) → (Nat → Int32) → (Nat → Int32) → (Nat → Int32) → Int32 → Prop) (hw : wp_X5_house p1 Mp Mv Mb Me Md Mdo Mk Mm Mta Mkn Mti Mrl Mn post) : Met l yX5_house wsX5_house { frames := 1, cells := 0, slots := 0, locals := 22 } (va_Pc [.ref (ad 16), .int p1] (gq_pre D (tyM ck) (wdM ad ck Mp Mv Mb Me Md Mdo Mk Mm Mta Mkn Mti Mrl Mrr Mt Mn Mw Mwl Mws Mf Mpa Mne) sz)) (va_Qi (fun (r : Int32) (u : Int32 × Int32 × Int32 × Int32 × Int32 × (Nat → Int32) × (Nat → Int32) × (Nat → Int32) × (Nat → Int32) × (Nat → Int32) × (Nat → Int32) × (Nat → Int32) × Int32) => post r u.1 u.2.1 u.2.2.1 u.2.2.2.1 u.2.2.2.2.1 u.2.2.2.2.2.1 u.2.2.2.2.2.2.1 u.2.2.2.2.2.2.2.1 u.2.2.2.2.2.2.2.2.1 u.2.2.2.2.2.2.2.2.2.1 u.2.2.2.2.2.2.2.2.2.2.1 u.2.2.2.2.2.2.2.2.2.2.2.1 u.2.2.2.2.2.2.2.2.2.2.2.2) (gq_at D (va_A (wdM ad ck Mp Mv Mb Me Md Mdo Mk Mm Mta Mkn Mti Mrl Mrr Mt Mn Mw Mwl Mws Mf Mpa Mne) sz) (fun (u : Int32 × Int32 × Int32 × Int32 × Int32 × (Nat → Int32) × (Nat → Int32) × (Nat → Int32) × (Nat → Int32) × (Nat → Int32) × (Nat → Int32) × (Nat → Int32) × Int32) => (wdM ad ck u.1 u.2.1 u.2.2.1 u.2.2.2.1 u.2.2.2.2.1 u.2.2.2.2.2.1 u.2.2.2.2.2.2.1 u.2.2.2.2.2.2.2.1 u.2.2.2.2.2.2.2.2.1 u.2.2.2.2.2.2.2.2.2.1 u.2.2.2.2.2.2.2.2.2.2.1 u.2.2.2.2.2.2.2.2.2.2.2.1 Mrr Mt u.2.2.2.2.2.2.2.2.2.2.2.2 Mw Mwl Mws Mf Mpa Mne))) (va_A (wdM ad ck Mp Mv Mb Me Md Mdo Mk Mm Mta Mkn Mti Mrl Mrr Mt Mn Mw Mwl Mws Mf Mpa Mne) sz)) 0 0 (va_A (wdM ad ck Mp Mv Mb Me Md Mdo Mk Mm Mta Mkn Mti Mrl Mrr Mt Mn Mw Mwl Mws Mf Mpa Mne) sz) := by
  refine gq_metz (cc := cX5_house) (maxL := 3) (lv := [(0, .ref (ad 16)), (1, .int p1)]) (by decide) rfl (Nat.le_of_ble_eq_true rfl) rfl ?_
  intro p e s m below meth c A Q ls H locs hx hb hml hown hts hnw hA hK hP hD hS hl hz
  refine lv_iload_n hx hb dX5_house_0 rfl (lv_at hl 1 rfl) ?_
  refine lv_iconst (v := 2) hx hb dX5_house_1 (by decide) ?_
  refine lv_bipush (v := 9) hx hb dX5_house_2 (by decide) ?_
  refine gq_calli (wsN := fun _ => (wdM ad ck Mp Mv Mb Me Md Mdo Mk Mm Mta Mkn Mti Mrl Mrr Mt Mn Mw Mwl Mws Mf Mpa Mne)) (va_runS (As := [.int p1, .int 2, .int 9]) (rest := []) ⟨hx, hb, hml, hown, hts⟩ (c_X5_isIn l D H.size p1 2 9 _ hw) (va_cwS 3 hts gX5_house_X5_isIn rfl rfl rfl (by decide +kernel) ⟨Nat.le_of_ble_eq_true rfl, Nat.le_of_ble_eq_true rfl⟩) (gq_preS hK [] rfl hP hD [] rfl rfl hnw) rfl rfl hl.1 rfl (lv_room (Nat.le_of_ble_eq_true rfl)) dX5_house_4 ⟨Nat.zero_le _, Nat.zero_le _⟩) hP hD hS hA [] [0, 1, 2, 3, 4, 5, 6, 7, 8, 9, 10, 11, 12, 13, 14] rfl rfl rfl (by decide) [0, 1, 2, 3, 4, 5, 6, 7, 8, 9, 10, 11, 12, 13, 14] rfl (fun _ => rfl) (fun r1 _ H locs hw hP hD hS => ?_)
  refine lv_if_ne (tgt := 12) hx hb dX5_house_7 (by decide) (fun c2 => ?_) (fun c2 => ?_)
  · have hw := gq_f c2 hw
    refine lv_aload_n hx hb dX5_house_12 rfl (lv_at hl 0 rfl) ?_
    refine lv_iload_n hx hb dX5_house_13 rfl (lv_at hl 1 rfl) ?_
    refine va_put (D := D) (ci := 5) (v := .int p1) (ty := .int) (C := RX5) (T := TX5) (N := 21) hx hb hts iX5_house_X5 tyX5 tyX5_ok nmX5 hown hK hP hD hS 0 rfl rfl 0 (by decide) (hts (.fieldLink RX5 7 "DecoyHouseModel" "places" "I") (by decide +kernel)) (fun _ h9 => h9) rfl (by decide +kernel) rfl rfl (Nat.le_of_ble_eq_true rfl) dX5_house_14 (fun H locs hP hD hS => ?_)
    have hP : va_P D vwCl (wdM ad ck p1 Mv Mb Me Md Mdo Mk Mm Mta Mkn Mti Mrl Mrr Mt Mn Mw Mwl Mws Mf Mpa Mne) H := hP
    have hD : va_D A (wdM ad ck p1 Mv Mb Me Md Mdo Mk Mm Mta Mkn Mti Mrl Mrr Mt Mn Mw Mwl Mws Mf Mpa Mne) := hD
    refine lv_aload_n hx hb dX5_house_17 rfl (lv_at hl 0 rfl) ?_
    refine lv_sipush (v := 255) hx hb dX5_house_18 (by decide) ?_
    refine va_put (D := D) (ci := 5) (v := .int 255) (ty := .int) (C := RX5) (T := TX5) (N := 21) hx hb hts iX5_house_X5 tyX5 tyX5_ok nmX5 hown hK hP hD hS 0 rfl rfl 1 (by decide) (hts (.fieldLink RX5 13 "DecoyHouseModel" "visible" "I") (by decide +kernel)) (fun _ h9 => h9) rfl (by decide +kernel) rfl rfl (Nat.le_of_ble_eq_true rfl) dX5_house_21 (fun H locs hP hD hS => ?_)
    have hP : va_P D vwCl (wdM ad ck p1 255 Mb Me Md Mdo Mk Mm Mta Mkn Mti Mrl Mrr Mt Mn Mw Mwl Mws Mf Mpa Mne) H := hP
    have hD : va_D A (wdM ad ck p1 255 Mb Me Md Mdo Mk Mm Mta Mkn Mti Mrl Mrr Mt Mn Mw Mwl Mws Mf Mpa Mne) := hD
    refine lv_aload_n hx hb dX5_house_24 rfl (lv_at hl 0 rfl) ?_
    refine lv_iconst (v := 3) hx hb dX5_house_25 (by decide) ?_
    refine va_put (D := D) (ci := 5) (v := .int 3) (ty := .int) (C := RX5) (T := TX5) (N := 21) hx hb hts iX5_house_X5 tyX5 tyX5_ok nmX5 hown hK hP hD hS 0 rfl rfl 2 (by decide) (hts (.fieldLink RX5 16 "DecoyHouseModel" "bears" "I") (by decide +kernel)) (fun _ h9 => h9) rfl (by decide +kernel) rfl rfl (Nat.le_of_ble_eq_true rfl) dX5_house_26 (fun H locs hP hD hS => ?_)
    have hP : va_P D vwCl (wdM ad ck p1 255 3 Me Md Mdo Mk Mm Mta Mkn Mti Mrl Mrr Mt Mn Mw Mwl Mws Mf Mpa Mne) H := hP
    have hD : va_D A (wdM ad ck p1 255 3 Me Md Mdo Mk Mm Mta Mkn Mti Mrl Mrr Mt Mn Mw Mwl Mws Mf Mpa Mne) := hD
    refine lv_aload_n hx hb dX5_house_29 rfl (lv_at hl 0 rfl) ?_
    refine lv_iconst (v := 0) hx hb dX5_house_30 (by decide) ?_
    refine va_put (D := D) (ci := 5) (v := .int 0) (ty := .int) (C := RX5) (T := TX5) (N := 21) hx hb hts iX5_house_X5 tyX5 tyX5_ok nmX5 hown hK hP hD hS 0 rfl rfl 3 (by decide) (hts (.fieldLink RX5 67 "DecoyHouseModel" "day" "I") (by decide +kernel)) (fun _ h9 => h9) rfl (by decide +kernel) rfl rfl (Nat.le_of_ble_eq_true rfl) dX5_house_31 (fun H locs hP hD hS => ?_)
    have hP : va_P D vwCl (wdM ad ck p1 255 3 0 Md Mdo Mk Mm Mta Mkn Mti Mrl Mrr Mt Mn Mw Mwl Mws Mf Mpa Mne) H := hP
    have hD : va_D A (wdM ad ck p1 255 3 0 Md Mdo Mk Mm Mta Mkn Mti Mrl Mrr Mt Mn Mw Mwl Mws Mf Mpa Mne) := hD
    refine lv_aload_n hx hb dX5_house_34 rfl (lv_at hl 0 rfl) ?_
    refine lv_iconst (v := 0) hx hb dX5_house_35 (by decide) ?_
    refine va_put (D := D) (ci := 5) (v := .int 0) (ty := .int) (C := RX5) (T := TX5) (N := 21) hx hb hts iX5_house_X5 tyX5 tyX5_ok nmX5 hown hK hP hD hS 0 rfl rfl 4 (by decide) (hts (.fieldLink RX5 70 "DecoyHouseModel" "decoys" "I") (by decide +kernel)) (fun _ h9 => h9) rfl (by decide +kernel) rfl rfl (Nat.le_of_ble_eq_true rfl) dX5_house_36 (fun H locs hP hD hS => ?_)
    have hP : va_P D vwCl (wdM ad ck p1 255 3 0 0 Mdo Mk Mm Mta Mkn Mti Mrl Mrr Mt Mn Mw Mwl Mws Mf Mpa Mne) H := hP
    have hD : va_D A (wdM ad ck p1 255 3 0 0 Mdo Mk Mm Mta Mkn Mti Mrl Mrr Mt Mn Mw Mwl Mws Mf Mpa Mne) := hD
    refine lv_aload_n hx hb dX5_house_39 rfl (lv_at hl 0 rfl) ?_
    refine lv_iconst (v := 0) hx hb dX5_house_40 (by decide) ?_
    refine va_put (D := D) (ci := 5) (v := .int 0) (ty := .int) (C := RX5) (T := TX5) (N := 21) hx hb hts iX5_house_X5 tyX5 tyX5_ok nmX5 hown hK hP hD hS 0 rfl rfl 14 (by decide) (hts (.fieldLink RX5 73 "DecoyHouseModel" "told" "I") (by decide +kernel)) (fun _ h9 => h9) rfl (by decide +kernel) rfl rfl (Nat.le_of_ble_eq_true rfl) dX5_house_41 (fun H locs hP hD hS => ?_)
    have hP : va_P D vwCl (wdM ad ck p1 255 3 0 0 Mdo Mk Mm Mta Mkn Mti Mrl Mrr Mt 0 Mw Mwl Mws Mf Mpa Mne) H := hP
    have hD : va_D A (wdM ad ck p1 255 3 0 0 Mdo Mk Mm Mta Mkn Mti Mrl Mrr Mt 0 Mw Mwl Mws Mf Mpa Mne) := hD
    refine lv_iconst (v := 0) hx hb dX5_house_44 (by decide) ?_
    refine lv_istore_n (lv' := [(2, .int 0), (0, .ref (ad 16)), (1, .int p1)]) hx hb dX5_house_45 rfl hl (by decide) rfl (fun ls hl => ?_)
    have hL46 : ∀ (X65 : Int32 → (Nat → Int32) → Prop), (∀ (x3 : Int32) (Mdo_4 : Nat → Int32) (H : Heap) (locs : List Loc), X65 x3 Mdo_4 → va_P D vwCl (wdM ad ck p1 255 3 0 0 Mdo_4 Mk Mm Mta Mkn Mti Mrl Mrr Mt 0 Mw Mwl Mws Mf Mpa Mne) H → va_D A (wdM ad ck p1 255 3 0 0 Mdo_4 Mk Mm Mta Mkn Mti Mrl Mrr Mt 0 Mw Mwl Mws Mf Mpa Mne) → va_S A s.heap H locs → ∀ ls : Array Slot, lv_has ls 3 [(0, .ref (ad 16)), (1, .int p1), (2, .int x3)] → W p l e { frames := 1, cells := 0, slots := 0, locals := 22 } s m ([.ref (ad 16), .int p1] : List Value).toArray below meth c H locs 0 0 Q (F0 m 65 ls [])) → ∀ (n : Nat) (x3 : Int32) (Mdo_4 : Nat → Int32) (H : Heap) (locs : List Loc), wl_X5_house_46 X65 n x3 Mdo_4 → va_P D vwCl (wdM ad ck p1 255 3 0 0 Mdo_4 Mk Mm Mta Mkn Mti Mrl Mrr Mt 0 Mw Mwl Mws Mf Mpa Mne) H → va_D A (wdM ad ck p1 255 3 0 0 Mdo_4 Mk Mm Mta Mkn Mti Mrl Mrr Mt 0 Mw Mwl Mws Mf Mpa Mne) → va_S A s.heap H locs → ∀ ls : Array Slot, lv_has ls 3 [(0, .ref (ad 16)), (1, .int p1), (2, .int x3)] → W p l e { frames := 1, cells := 0, slots := 0, locals := 22 } s m ([.ref (ad 16), .int p1] : List Value).toArray below meth c H locs 0 0 Q (F0 m 46 ls []) := by
      intro X65 hX65
      intro n
      induction n with
      | zero =>
        intro x3 Mdo_4 H locs hw
        exact hw.elim
      | succ n ih =>
        intro x3 Mdo_4 H locs hw hP hD hS ls hl
        refine lv_iload_n hx hb dX5_house_46 rfl (lv_at hl 2 rfl) ?_
        refine lv_bipush (v := 81) hx hb dX5_house_47 (by decide) ?_
        refine lv_icmp_ge (tgt := 65) hx hb dX5_house_49 (by decide) (fun c5 => ?_) (fun c5 => ?_)
        · have hw := gq_t c5 hw
          exact hX65 x3 Mdo_4 _ _ hw hP hD hS ls (lv_sub hl [0, 1, 2] rfl)
        · have hw := gq_f c5 hw
          refine lv_aload_n hx hb dX5_house_52 rfl (lv_at hl 0 rfl) ?_
          refine va_get (D := D) (ci := 5) (v := .ref (ad 17)) (C := RX5) (T := TX5) (N := 21) hx hb hts iX5_house_X5 hown hK hP 0 rfl rfl 5 (by decide) (hts (.fieldLink RX5 19 "DecoyHouseModel" "door" "[Z") (by decide +kernel)) (fun _ h9 => h9) rfl dX5_house_53 ?_
          refine lv_iload_n hx hb dX5_house_56 rfl (lv_at hl 2 rfl) ?_
          refine lv_iconst (v := 0) hx hb dX5_house_57 (by decide) ?_
          refine va_zast hx hb hK hP hD hS 1 0 rfl rfl hw.1 dX5_house_58 (fun H locs hP hD hS => ?_)
          obtain ⟨Mdo_6, eMdo_6⟩ : ∃ y : Nat → Int32, y = upd Mdo_4 (x3).toNatClampNeg (vp_nar .boolean 0) := ⟨_, rfl⟩
          have hw := gq_at1 hw.2 eMdo_6
          have hP : va_P D vwCl (wdM ad ck p1 255 3 0 0 Mdo_6 Mk Mm Mta Mkn Mti Mrl Mrr Mt 0 Mw Mwl Mws Mf Mpa Mne) H := by rw [eMdo_6]; exact hP
          have hD : va_D A (wdM ad ck p1 255 3 0 0 Mdo_6 Mk Mm Mta Mkn Mti Mrl Mrr Mt 0 Mw Mwl Mws Mf Mpa Mne) := by rw [eMdo_6]; exact hD
          obtain ⟨v7, ev7⟩ : ∃ y : Int32, y = x3 + 1 := ⟨_, rfl⟩
          have hw := gq_at1 hw ev7
          refine lv_iinc (v := v7) (lv' := [(2, .int v7), (0, .ref (ad 16)), (1, .int p1)]) hx hb dX5_house_59 hl (k := 2) rfl (by rw [ev7]; rfl) (by decide) rfl (fun ls hl => ?_)
          refine lv_goto (tgt := 46) hx hb dX5_house_62 (by decide) ?_
          exact ih v7 Mdo_6 _ _ hw hP hD hS ls (lv_sub hl [1, 2, 0] rfl)
    obtain ⟨n, hw⟩ := hw
    refine hL46 _ (fun y8 Mdo_9 H locs hw hP hD hS ls hl => ?_) n 0 Mdo _ _ hw hP hD hS ls (lv_sub hl [1, 2, 0] rfl)
    refine lv_iconst (v := 0) hx hb dX5_house_65 (by decide) ?_
    refine lv_istore_n (lv' := [(2, .int 0), (0, .ref (ad 16)), (1, .int p1)]) hx hb dX5_house_66 rfl hl (by decide) rfl (fun ls hl => ?_)
    have hL67 : ∀ (X107 : Int32 → (Nat → Int32) → (Nat → Int32) → (Nat → Int32) → (Nat → Int32) → Prop), (∀ (x10 : Int32) (Mk_11 : Nat → Int32) (Mm_12 : Nat → Int32) (Mta_13 : Nat → Int32) (Mkn_14 : Nat → Int32) (H : Heap) (locs : List Loc), X107 x10 Mk_11 Mm_12 Mta_13 Mkn_14 → va_P D vwCl (wdM ad ck p1 255 3 0 0 Mdo_9 Mk_11 Mm_12 Mta_13 Mkn_14 Mti Mrl Mrr Mt 0 Mw Mwl Mws Mf Mpa Mne) H → va_D A (wdM ad ck p1 255 3 0 0 Mdo_9 Mk_11 Mm_12 Mta_13 Mkn_14 Mti Mrl Mrr Mt 0 Mw Mwl Mws Mf Mpa Mne) → va_S A s.heap H locs → ∀ ls : Array Slot, lv_has ls 3 [(0, .ref (ad 16)), (1, .int p1), (2, .int x10)] → W p l e { frames := 1, cells := 0, slots := 0, locals := 22 } s m ([.ref (ad 16), .int p1] : List Value).toArray below meth c H locs 0 0 Q (F0 m 107 ls [])) → ∀ (n : Nat) (x10 : Int32) (Mk_11 : Nat → Int32) (Mm_12 : Nat → Int32) (Mta_13 : Nat → Int32) (Mkn_14 : Nat → Int32) (H : Heap) (locs : List Loc), wl_X5_house_67 X107 n x10 Mk_11 Mm_12 Mta_13 Mkn_14 → va_P D vwCl (wdM ad ck p1 255 3 0 0 Mdo_9 Mk_11 Mm_12 Mta_13 Mkn_14 Mti Mrl Mrr Mt 0 Mw Mwl Mws Mf Mpa Mne) H → va_D A (wdM ad ck p1 255 3 0 0 Mdo_9 Mk_11 Mm_12 Mta_13 Mkn_14 Mti Mrl Mrr Mt 0 Mw Mwl Mws Mf Mpa Mne) → va_S A s.heap H locs → ∀ ls : Array Slot, lv_has ls 3 [(0, .ref (ad 16)), (1, .int p1), (2, .int x10)] → W p l e { frames := 1, cells := 0, slots := 0, locals := 22 } s m ([.ref (ad 16), .int p1] : List Value).toArray below meth c H locs 0 0 Q (F0 m 67 ls []) := by
      intro X107 hX107
      intro n
      induction n with
      | zero =>
        intro x10 Mk_11 Mm_12 Mta_13 Mkn_14 H locs hw
        exact hw.elim
      | succ n ih =>
        intro x10 Mk_11 Mm_12 Mta_13 Mkn_14 H locs hw hP hD hS ls hl
        refine lv_iload_n hx hb dX5_house_67 rfl (lv_at hl 2 rfl) ?_
        refine lv_bipush (v := 9) hx hb dX5_house_68 (by decide) ?_
        refine lv_icmp_ge (tgt := 107) hx hb dX5_house_70 (by decide) (fun c15 => ?_) (fun c15 => ?_)
        · have hw := gq_t c15 hw
          exact hX107 x10 Mk_11 Mm_12 Mta_13 Mkn_14 _ _ hw hP hD hS ls (lv_sub hl [0, 1, 2] rfl)
        · have hw := gq_f c15 hw
          refine lv_aload_n hx hb dX5_house_73 rfl (lv_at hl 0 rfl) ?_
          refine va_get (D := D) (ci := 5) (v := .ref (ad 18)) (C := RX5) (T := TX5) (N := 21) hx hb hts iX5_house_X5 hown hK hP 0 rfl rfl 6 (by decide) (hts (.fieldLink RX5 23 "DecoyHouseModel" "kind" "[I") (by decide +kernel)) (fun _ h9 => h9) rfl dX5_house_74 ?_
          refine lv_iload_n hx hb dX5_house_77 rfl (lv_at hl 2 rfl) ?_
          refine lv_iconst (v := 0) hx hb dX5_house_78 (by decide) ?_
          refine va_iast hx hb hK hP hD hS 2 1 rfl rfl hw.1 dX5_house_79 (fun H locs hP hD hS => ?_)
          obtain ⟨Mk_16, eMk_16⟩ : ∃ y : Nat → Int32, y = upd Mk_11 (x10).toNatClampNeg 0 := ⟨_, rfl⟩
          have hw := gq_at1 hw.2 eMk_16
          have hP : va_P D vwCl (wdM ad ck p1 255 3 0 0 Mdo_9 Mk_16 Mm_12 Mta_13 Mkn_14 Mti Mrl Mrr Mt 0 Mw Mwl Mws Mf Mpa Mne) H := by rw [eMk_16]; exact hP
          have hD : va_D A (wdM ad ck p1 255 3 0 0 Mdo_9 Mk_16 Mm_12 Mta_13 Mkn_14 Mti Mrl Mrr Mt 0 Mw Mwl Mws Mf Mpa Mne) := by rw [eMk_16]; exact hD
          refine lv_aload_n hx hb dX5_house_80 rfl (lv_at hl 0 rfl) ?_
          refine va_get (D := D) (ci := 5) (v := .ref (ad 19)) (C := RX5) (T := TX5) (N := 21) hx hb hts iX5_house_X5 hown hK hP 0 rfl rfl 7 (by decide) (hts (.fieldLink RX5 27 "DecoyHouseModel" "marks" "[I") (by decide +kernel)) (fun _ h9 => h9) rfl dX5_house_81 ?_
          refine lv_iload_n hx hb dX5_house_84 rfl (lv_at hl 2 rfl) ?_
          refine lv_iconst (v := 0) hx hb dX5_house_85 (by decide) ?_
          refine va_iast hx hb hK hP hD hS 3 2 rfl rfl hw.1 dX5_house_86 (fun H locs hP hD hS => ?_)
          obtain ⟨Mm_17, eMm_17⟩ : ∃ y : Nat → Int32, y = upd Mm_12 (x10).toNatClampNeg 0 := ⟨_, rfl⟩
          have hw := gq_at1 hw.2 eMm_17
          have hP : va_P D vwCl (wdM ad ck p1 255 3 0 0 Mdo_9 Mk_16 Mm_17 Mta_13 Mkn_14 Mti Mrl Mrr Mt 0 Mw Mwl Mws Mf Mpa Mne) H := by rw [eMm_17]; exact hP
          have hD : va_D A (wdM ad ck p1 255 3 0 0 Mdo_9 Mk_16 Mm_17 Mta_13 Mkn_14 Mti Mrl Mrr Mt 0 Mw Mwl Mws Mf Mpa Mne) := by rw [eMm_17]; exact hD
          refine lv_aload_n hx hb dX5_house_87 rfl (lv_at hl 0 rfl) ?_
          refine va_get (D := D) (ci := 5) (v := .ref (ad 20)) (C := RX5) (T := TX5) (N := 21) hx hb hts iX5_house_X5 hown hK hP 0 rfl rfl 8 (by decide) (hts (.fieldLink RX5 30 "DecoyHouseModel" "talesOf" "[I") (by decide +kernel)) (fun _ h9 => h9) rfl dX5_house_88 ?_
          refine lv_iload_n hx hb dX5_house_91 rfl (lv_at hl 2 rfl) ?_
          refine lv_iconst (v := 0) hx hb dX5_house_92 (by decide) ?_
          refine va_iast hx hb hK hP hD hS 4 3 rfl rfl hw.1 dX5_house_93 (fun H locs hP hD hS => ?_)
          obtain ⟨Mta_18, eMta_18⟩ : ∃ y : Nat → Int32, y = upd Mta_13 (x10).toNatClampNeg 0 := ⟨_, rfl⟩
          have hw := gq_at1 hw.2 eMta_18
          have hP : va_P D vwCl (wdM ad ck p1 255 3 0 0 Mdo_9 Mk_16 Mm_17 Mta_18 Mkn_14 Mti Mrl Mrr Mt 0 Mw Mwl Mws Mf Mpa Mne) H := by rw [eMta_18]; exact hP
          have hD : va_D A (wdM ad ck p1 255 3 0 0 Mdo_9 Mk_16 Mm_17 Mta_18 Mkn_14 Mti Mrl Mrr Mt 0 Mw Mwl Mws Mf Mpa Mne) := by rw [eMta_18]; exact hD
          refine lv_aload_n hx hb dX5_house_94 rfl (lv_at hl 0 rfl) ?_
          refine va_get (D := D) (ci := 5) (v := .ref (ad 21)) (C := RX5) (T := TX5) (N := 21) hx hb hts iX5_house_X5 hown hK hP 0 rfl rfl 9 (by decide) (hts (.fieldLink RX5 33 "DecoyHouseModel" "knownTo" "[I") (by decide +kernel)) (fun _ h9 => h9) rfl dX5_house_95 ?_
          refine lv_iload_n hx hb dX5_house_98 rfl (lv_at hl 2 rfl) ?_
          refine lv_iconst (v := 0) hx hb dX5_house_99 (by decide) ?_
          refine va_iast hx hb hK hP hD hS 5 4 rfl rfl hw.1 dX5_house_100 (fun H locs hP hD hS => ?_)
          obtain ⟨Mkn_19, eMkn_19⟩ : ∃ y : Nat → Int32, y = upd Mkn_14 (x10).toNatClampNeg 0 := ⟨_, rfl⟩
          have hw := gq_at1 hw.2 eMkn_19
          have hP : va_P D vwCl (wdM ad ck p1 255 3 0 0 Mdo_9 Mk_16 Mm_17 Mta_18 Mkn_19 Mti Mrl Mrr Mt 0 Mw Mwl Mws Mf Mpa Mne) H := by rw [eMkn_19]; exact hP
          have hD : va_D A (wdM ad ck p1 255 3 0 0 Mdo_9 Mk_16 Mm_17 Mta_18 Mkn_19 Mti Mrl Mrr Mt 0 Mw Mwl Mws Mf Mpa Mne) := by rw [eMkn_19]; exact hD
          obtain ⟨v20, ev20⟩ : ∃ y : Int32, y = x10 + 1 := ⟨_, rfl⟩
          have hw := gq_at1 hw ev20
          refine lv_iinc (v := v20) (lv' := [(2, .int v20), (0, .ref (ad 16)), (1, .int p1)]) hx hb dX5_house_101 hl (k := 2) rfl (by rw [ev20]; rfl) (by decide) rfl (fun ls hl => ?_)
          refine lv_goto (tgt := 67) hx hb dX5_house_104 (by decide) ?_
          exact ih v20 Mk_16 Mm_17 Mta_18 Mkn_19 _ _ hw hP hD hS ls (lv_sub hl [1, 2, 0] rfl)
    obtain ⟨n, hw⟩ := hw
    refine hL67 _ (fun y21 Mk_22 Mm_23 Mta_24 Mkn_25 H locs hw hP hD hS ls hl => ?_) n 0 Mk Mm Mta Mkn _ _ hw hP hD hS ls (lv_sub hl [1, 2, 0] rfl)
    refine lv_iconst (v := 0) hx hb dX5_house_107 (by decide) ?_
    refine lv_istore_n (lv' := [(2, .int 0), (0, .ref (ad 16)), (1, .int p1)]) hx hb dX5_house_108 rfl hl (by decide) rfl (fun ls hl => ?_)
    have hL109 : ∀ (n : Nat) (x26 : Int32) (Mti_27 : Nat → Int32) (Mrl_28 : Nat → Int32) (H : Heap) (locs : List Loc), wl_X5_house_109 p1 Mdo_9 Mk_22 Mm_23 Mta_24 Mkn_25 post n x26 Mti_27 Mrl_28 → va_P D vwCl (wdM ad ck p1 255 3 0 0 Mdo_9 Mk_22 Mm_23 Mta_24 Mkn_25 Mti_27 Mrl_28 Mrr Mt 0 Mw Mwl Mws Mf Mpa Mne) H → va_D A (wdM ad ck p1 255 3 0 0 Mdo_9 Mk_22 Mm_23 Mta_24 Mkn_25 Mti_27 Mrl_28 Mrr Mt 0 Mw Mwl Mws Mf Mpa Mne) → va_S A s.heap H locs → ∀ ls : Array Slot, lv_has ls 3 [(0, .ref (ad 16)), (1, .int p1), (2, .int x26)] → W p l e { frames := 1, cells := 0, slots := 0, locals := 22 } s m ([.ref (ad 16), .int p1] : List Value).toArray below meth c H locs 0 0 Q (F0 m 109 ls []) := by
      intro n
      induction n with
      | zero =>
        intro x26 Mti_27 Mrl_28 H locs hw
        exact hw.elim
      | succ n ih =>
        intro x26 Mti_27 Mrl_28 H locs hw hP hD hS ls hl
        refine lv_iload_n hx hb dX5_house_109 rfl (lv_at hl 2 rfl) ?_
        refine lv_bipush (v := 6) hx hb dX5_house_110 (by decide) ?_
        refine lv_icmp_ge (tgt := 135) hx hb dX5_house_112 (by decide) (fun c29 => ?_) (fun c29 => ?_)
        · have hw := gq_t c29 hw
          refine lv_iconst (v := 1) hx hb dX5_house_135 (by decide) ?_
          exact hz 1 (p1, 255, 3, 0, 0, Mdo_9, Mk_22, Mm_23, Mta_24, Mkn_25, Mti_27, Mrl_28, 0) _ _ _ _ dX5_house_136 gq_zb1 hw hP hD hS
        · have hw := gq_f c29 hw
          refine lv_aload_n hx hb dX5_house_115 rfl (lv_at hl 0 rfl) ?_
          refine va_get (D := D) (ci := 5) (v := .ref (ad 22)) (C := RX5) (T := TX5) (N := 21) hx hb hts iX5_house_X5 hown hK hP 0 rfl rfl 10 (by decide) (hts (.fieldLink RX5 36 "DecoyHouseModel" "times" "[I") (by decide +kernel)) (fun _ h9 => h9) rfl dX5_house_116 ?_
          refine lv_iload_n hx hb dX5_house_119 rfl (lv_at hl 2 rfl) ?_
          refine lv_iconst (v := 0) hx hb dX5_house_120 (by decide) ?_
          refine va_iast hx hb hK hP hD hS 6 5 rfl rfl hw.1 dX5_house_121 (fun H locs hP hD hS => ?_)
          obtain ⟨Mti_30, eMti_30⟩ : ∃ y : Nat → Int32, y = upd Mti_27 (x26).toNatClampNeg 0 := ⟨_, rfl⟩
          have hw := gq_at1 hw.2 eMti_30
          have hP : va_P D vwCl (wdM ad ck p1 255 3 0 0 Mdo_9 Mk_22 Mm_23 Mta_24 Mkn_25 Mti_30 Mrl_28 Mrr Mt 0 Mw Mwl Mws Mf Mpa Mne) H := by rw [eMti_30]; exact hP
          have hD : va_D A (wdM ad ck p1 255 3 0 0 Mdo_9 Mk_22 Mm_23 Mta_24 Mkn_25 Mti_30 Mrl_28 Mrr Mt 0 Mw Mwl Mws Mf Mpa Mne) := by rw [eMti_30]; exact hD
          refine lv_aload_n hx hb dX5_house_122 rfl (lv_at hl 0 rfl) ?_
          refine va_get (D := D) (ci := 5) (v := .ref (ad 23)) (C := RX5) (T := TX5) (N := 21) hx hb hts iX5_house_X5 hown hK hP 0 rfl rfl 11 (by decide) (hts (.fieldLink RX5 39 "DecoyHouseModel" "roundLong" "[I") (by decide +kernel)) (fun _ h9 => h9) rfl dX5_house_123 ?_
          refine lv_iload_n hx hb dX5_house_126 rfl (lv_at hl 2 rfl) ?_
          refine lv_iconst (v := 0) hx hb dX5_house_127 (by decide) ?_
          refine va_iast hx hb hK hP hD hS 7 6 rfl rfl hw.1 dX5_house_128 (fun H locs hP hD hS => ?_)
          obtain ⟨Mrl_31, eMrl_31⟩ : ∃ y : Nat → Int32, y = upd Mrl_28 (x26).toNatClampNeg 0 := ⟨_, rfl⟩
          have hw := gq_at1 hw.2 eMrl_31
          have hP : va_P D vwCl (wdM ad ck p1 255 3 0 0 Mdo_9 Mk_22 Mm_23 Mta_24 Mkn_25 Mti_30 Mrl_31 Mrr Mt 0 Mw Mwl Mws Mf Mpa Mne) H := by rw [eMrl_31]; exact hP
          have hD : va_D A (wdM ad ck p1 255 3 0 0 Mdo_9 Mk_22 Mm_23 Mta_24 Mkn_25 Mti_30 Mrl_31 Mrr Mt 0 Mw Mwl Mws Mf Mpa Mne) := by rw [eMrl_31]; exact hD
          obtain ⟨v32, ev32⟩ : ∃ y : Int32, y = x26 + 1 := ⟨_, rfl⟩
          have hw := gq_at1 hw ev32
          refine lv_iinc (v := v32) (lv' := [(2, .int v32), (0, .ref (ad 16)), (1, .int p1)]) hx hb dX5_house_129 hl (k := 2) rfl (by rw [ev32]; rfl) (by decide) rfl (fun ls hl => ?_)
          refine lv_goto (tgt := 109) hx hb dX5_house_132 (by decide) ?_
          exact ih v32 Mti_30 Mrl_31 _ _ hw hP hD hS ls (lv_sub hl [1, 2, 0] rfl)
    obtain ⟨n, hw⟩ := hw
    exact hL109 n 0 Mti Mrl _ _ hw hP hD hS ls (lv_sub hl [1, 2, 0] rfl)
  · have hw := gq_t c2 hw
    refine lv_iconst (v := 0) hx hb dX5_house_10 (by decide) ?_
    exact hz 0 (Mp, Mv, Mb, Me, Md, Mdo, Mk, Mm, Mta, Mkn, Mti, Mrl, Mn) _ _ _ _ dX5_house_11 gq_zb0 hw hP hD hS

def wp_X5_isDecoy (p1 : Int32) (Md : Int32) (post : Int32 → Prop) : Prop :=
  (if ((Md >>> (p1 &&& 31)) &&& 1) = 1 then post 1 else post 0)

theorem iX5_isDecoy_X5 : ∀ w ∈ wsX50, w ∈ wsX5_isDecoy := by decide +kernel
set_option maxHeartbeats 4000000 in
set_option maxRecDepth 100000 in
theorem c_X5_isDecoy (l : Launch) (D : va_G) (ad : Nat → Nat) (ck : Nat → ClassId) (sz : Nat) (Mp : Int32) (Mv : Int32) (Mb : Int32) (Me : Int32) (Md : Int32) (Mdo : Nat → Int32) (Mk : Nat → Int32) (Mm : Nat → Int32) (Mta : Nat → Int32) (Mkn : Nat → Int32) (Mti : Nat → Int32) (Mrl : Nat → Int32) (Mrr : Nat → Int32) (Mt : Nat → Int32) (Mn : Int32) (Mw : Nat → Int32) (Mwl : Nat → Int32) (Mws : Nat → Int32) (Mf : Int32) (Mpa : Nat → Int32) (Mne : Nat → Int32) (p1 : Int32) (post : Int32 → Prop) (hw : wp_X5_isDecoy p1 Md post) : Met l yX5_isDecoy wsX5_isDecoy { frames := 0, cells := 0, slots := 0, locals := 0 } (va_Pc [.ref (ad 16), .int p1] (gq_pre D (tyM ck) (wdM ad ck Mp Mv Mb Me Md Mdo Mk Mm Mta Mkn Mti Mrl Mrr Mt Mn Mw Mwl Mws Mf Mpa Mne) sz)) (va_Qi (fun (r : Int32) (_ : Unit) => post r ) (gq_at D (va_A (wdM ad ck Mp Mv Mb Me Md Mdo Mk Mm Mta Mkn Mti Mrl Mrr Mt Mn Mw Mwl Mws Mf Mpa Mne) sz) (fun (_ : Unit) => (wdM ad ck Mp Mv Mb Me Md Mdo Mk Mm Mta Mkn Mti Mrl Mrr Mt Mn Mw Mwl Mws Mf Mpa Mne))) (va_A (wdM ad ck Mp Mv Mb Me Md Mdo Mk Mm Mta Mkn Mti Mrl Mrr Mt Mn Mw Mwl Mws Mf Mpa Mne) sz)) 0 0 (va_A (wdM ad ck Mp Mv Mb Me Md Mdo Mk Mm Mta Mkn Mti Mrl Mrr Mt Mn Mw Mwl Mws Mf Mpa Mne) sz) := by
  refine gq_metz (cc := cX5_isDecoy) (maxL := 2) (lv := [(0, .ref (ad 16)), (1, .int p1)]) (by decide) rfl (Nat.le_of_ble_eq_true rfl) rfl ?_
  intro p e s m below meth c A Q ls H locs hx hb hml hown hts hnw hA hK hP hD hS hl hz
  refine lv_aload_n hx hb dX5_isDecoy_0 rfl (lv_at hl 0 rfl) ?_
  refine va_get (D := D) (ci := 5) (v := .int Md) (C := RX5) (T := TX5) (N := 21) hx hb hts iX5_isDecoy_X5 hown hK hP 0 rfl rfl 4 (by decide) (hts (.fieldLink RX5 70 "DecoyHouseModel" "decoys" "I") (by decide +kernel)) (fun _ h9 => h9) rfl dX5_isDecoy_1 ?_
  refine lv_iload_n hx hb dX5_isDecoy_4 rfl (lv_at hl 1 rfl) ?_
  refine lv_ishr hx hb dX5_isDecoy_5 ?_
  refine lv_iconst (v := 1) hx hb dX5_isDecoy_6 (by decide) ?_
  refine lv_iand hx hb dX5_isDecoy_7 ?_
  refine lv_iconst (v := 1) hx hb dX5_isDecoy_8 (by decide) ?_
  refine lv_icmp_ne (tgt := 16) hx hb dX5_isDecoy_9 (by decide) (fun c1 => ?_) (fun c1 => ?_)
  · have hw := gq_f c1 hw
    refine lv_iconst (v := 0) hx hb dX5_isDecoy_16 (by decide) ?_
    exact hz 0 () _ _ _ _ dX5_isDecoy_17 gq_zb0 hw hP hD hS
  · have hw := gq_t c1 hw
    refine lv_iconst (v := 1) hx hb dX5_isDecoy_12 (by decide) ?_
    refine lv_goto (tgt := 17) hx hb dX5_isDecoy_13 (by decide) ?_
    exact hz 1 () _ _ _ _ dX5_isDecoy_17 gq_zb1 hw hP hD hS

def wp_X5_isKnown (p1 : Int32) (Me : Int32) (Mkn : Nat → Int32) (post : Int32 → Prop) : Prop :=
  vp_in p1 9 ∧ (if (Mkn (p1).toNatClampNeg) ≤ Me then post 0 else post 1)

theorem iX5_isKnown_X5 : ∀ w ∈ wsX50, w ∈ wsX5_isKnown := by decide +kernel
set_option maxHeartbeats 4000000 in
set_option maxRecDepth 100000 in
theorem c_X5_isKnown (l : Launch) (D : va_G) (ad : Nat → Nat) (ck : Nat → ClassId) (sz : Nat) (Mp : Int32) (Mv : Int32) (Mb : Int32) (Me : Int32) (Md : Int32) (Mdo : Nat → Int32) (Mk : Nat → Int32) (Mm : Nat → Int32) (Mta : Nat → Int32) (Mkn : Nat → Int32) (Mti : Nat → Int32) (Mrl : Nat → Int32) (Mrr : Nat → Int32) (Mt : Nat → Int32) (Mn : Int32) (Mw : Nat → Int32) (Mwl : Nat → Int32) (Mws : Nat → Int32) (Mf : Int32) (Mpa : Nat → Int32) (Mne : Nat → Int32) (p1 : Int32) (post : Int32 → Prop) (hw : wp_X5_isKnown p1 Me Mkn post) : Met l yX5_isKnown wsX5_isKnown { frames := 0, cells := 0, slots := 0, locals := 0 } (va_Pc [.ref (ad 16), .int p1] (gq_pre D (tyM ck) (wdM ad ck Mp Mv Mb Me Md Mdo Mk Mm Mta Mkn Mti Mrl Mrr Mt Mn Mw Mwl Mws Mf Mpa Mne) sz)) (va_Qi (fun (r : Int32) (_ : Unit) => post r ) (gq_at D (va_A (wdM ad ck Mp Mv Mb Me Md Mdo Mk Mm Mta Mkn Mti Mrl Mrr Mt Mn Mw Mwl Mws Mf Mpa Mne) sz) (fun (_ : Unit) => (wdM ad ck Mp Mv Mb Me Md Mdo Mk Mm Mta Mkn Mti Mrl Mrr Mt Mn Mw Mwl Mws Mf Mpa Mne))) (va_A (wdM ad ck Mp Mv Mb Me Md Mdo Mk Mm Mta Mkn Mti Mrl Mrr Mt Mn Mw Mwl Mws Mf Mpa Mne) sz)) 0 0 (va_A (wdM ad ck Mp Mv Mb Me Md Mdo Mk Mm Mta Mkn Mti Mrl Mrr Mt Mn Mw Mwl Mws Mf Mpa Mne) sz) := by
  refine gq_metz (cc := cX5_isKnown) (maxL := 2) (lv := [(0, .ref (ad 16)), (1, .int p1)]) (by decide) rfl (Nat.le_of_ble_eq_true rfl) rfl ?_
  intro p e s m below meth c A Q ls H locs hx hb hml hown hts hnw hA hK hP hD hS hl hz
  refine lv_aload_n hx hb dX5_isKnown_0 rfl (lv_at hl 0 rfl) ?_
  refine va_get (D := D) (ci := 5) (v := .int Me) (C := RX5) (T := TX5) (N := 21) hx hb hts iX5_isKnown_X5 hown hK hP 0 rfl rfl 3 (by decide) (hts (.fieldLink RX5 67 "DecoyHouseModel" "day" "I") (by decide +kernel)) (fun _ h9 => h9) rfl dX5_isKnown_1 ?_
  refine lv_aload_n hx hb dX5_isKnown_4 rfl (lv_at hl 0 rfl) ?_
  refine va_get (D := D) (ci := 5) (v := .ref (ad 21)) (C := RX5) (T := TX5) (N := 21) hx hb hts iX5_isKnown_X5 hown hK hP 0 rfl rfl 9 (by decide) (hts (.fieldLink RX5 33 "DecoyHouseModel" "knownTo" "[I") (by decide +kernel)) (fun _ h9 => h9) rfl dX5_isKnown_5 ?_
  refine lv_iload_n hx hb dX5_isKnown_8 rfl (lv_at hl 1 rfl) ?_
  refine va_iald hx hb hK hP 5 4 rfl rfl hw.1 dX5_isKnown_9 ?_
  have hw := hw.2
  refine lv_icmp_ge (tgt := 17) hx hb dX5_isKnown_10 (by decide) (fun c1 => ?_) (fun c1 => ?_)
  · have hw := gq_t c1 hw
    refine lv_iconst (v := 0) hx hb dX5_isKnown_17 (by decide) ?_
    exact hz 0 () _ _ _ _ dX5_isKnown_18 gq_zb0 hw hP hD hS
  · have hw := gq_f c1 hw
    refine lv_iconst (v := 1) hx hb dX5_isKnown_13 (by decide) ?_
    refine lv_goto (tgt := 18) hx hb dX5_isKnown_14 (by decide) ?_
    exact hz 1 () _ _ _ _ dX5_isKnown_18 gq_zb1 hw hP hD hS

def wp_X5_door (p1 : Int32) (p2 : Int32) (p3 : Int32) (Mp : Int32) (Mdo : Nat → Int32) (post : Int32 → (Nat → Int32) → Prop) : Prop :=
  wp_X5_isPlace p1 Mp (fun (r1 : Int32) => (if r1 = 0 then post 0 Mdo else wp_X5_isPlace p2 Mp (fun (r3 : Int32) => (if r3 = 0 then post 0 Mdo else (if p1 = p2 then post 0 Mdo else vp_in ((9 * p1) + p2) 81 ∧ (if (Mdo (((9 * p1) + p2)).toNatClampNeg) = p3 then post 0 Mdo else vp_in ((9 * p1) + p2) 81 ∧ gq_nm (upd Mdo (((9 * p1) + p2)).toNatClampNeg (vp_nar .boolean p3)) (fun Mdo_7 : Nat → Int32 => post 1 Mdo_7)))))))

theorem iX5_door_X5 : ∀ w ∈ wsX50, w ∈ wsX5_door := by decide +kernel
set_option maxHeartbeats 4000000 in
set_option maxRecDepth 100000 in
theorem c_X5_door (l : Launch) (D : va_G) (ad : Nat → Nat) (ck : Nat → ClassId) (sz : Nat) (Mp : Int32) (Mv : Int32) (Mb : Int32) (Me : Int32) (Md : Int32) (Mdo : Nat → Int32) (Mk : Nat → Int32) (Mm : Nat → Int32) (Mta : Nat → Int32) (Mkn : Nat → Int32) (Mti : Nat → Int32) (Mrl : Nat → Int32) (Mrr : Nat → Int32) (Mt : Nat → Int32) (Mn : Int32) (Mw : Nat → Int32) (Mwl : Nat → Int32) (Mws : Nat → Int32) (Mf : Int32) (Mpa : Nat → Int32) (Mne : Nat → Int32) (p1 : Int32) (p2 : Int32) (p3 : Int32) (post : Int32 → (Nat → Int32) → Prop) (hw : wp_X5_door p1 p2 p3 Mp Mdo post) : Met l yX5_door wsX5_door { frames := 2, cells := 0, slots := 0, locals := 43 } (va_Pc [.ref (ad 16), .int p1, .int p2, .int p3] (gq_pre D (tyM ck) (wdM ad ck Mp Mv Mb Me Md Mdo Mk Mm Mta Mkn Mti Mrl Mrr Mt Mn Mw Mwl Mws Mf Mpa Mne) sz)) (va_Qi (fun (r : Int32) (u : (Nat → Int32)) => post r u) (gq_at D (va_A (wdM ad ck Mp Mv Mb Me Md Mdo Mk Mm Mta Mkn Mti Mrl Mrr Mt Mn Mw Mwl Mws Mf Mpa Mne) sz) (fun (u : (Nat → Int32)) => (wdM ad ck Mp Mv Mb Me Md u Mk Mm Mta Mkn Mti Mrl Mrr Mt Mn Mw Mwl Mws Mf Mpa Mne))) (va_A (wdM ad ck Mp Mv Mb Me Md Mdo Mk Mm Mta Mkn Mti Mrl Mrr Mt Mn Mw Mwl Mws Mf Mpa Mne) sz)) 0 0 (va_A (wdM ad ck Mp Mv Mb Me Md Mdo Mk Mm Mta Mkn Mti Mrl Mrr Mt Mn Mw Mwl Mws Mf Mpa Mne) sz) := by
  refine gq_metz (cc := cX5_door) (maxL := 4) (lv := [(0, .ref (ad 16)), (1, .int p1), (2, .int p2), (3, .int p3)]) (by decide) rfl (Nat.le_of_ble_eq_true rfl) rfl ?_
  intro p e s m below meth c A Q ls H locs hx hb hml hown hts hnw hA hK hP hD hS hl hz
  refine lv_aload_n hx hb dX5_door_0 rfl (lv_at hl 0 rfl) ?_
  refine lv_iload_n hx hb dX5_door_1 rfl (lv_at hl 1 rfl) ?_
  refine gq_calli (wsN := fun _ => (wdM ad ck Mp Mv Mb Me Md Mdo Mk Mm Mta Mkn Mti Mrl Mrr Mt Mn Mw Mwl Mws Mf Mpa Mne)) (va_runV (As := [.int p1]) (rest := []) ⟨hx, hb, hml, hown, hts⟩ (c_X5_isPlace l D ad ck H.size Mp Mv Mb Me Md Mdo Mk Mm Mta Mkn Mti Mrl Mrr Mt Mn Mw Mwl Mws Mf Mpa Mne p1 _ hw) (cwV 1 hts gX5_door_X5_isPlace rfl rfl rfl (by decide +kernel) ⟨Nat.le_of_ble_eq_true rfl, Nat.le_of_ble_eq_true rfl⟩) (gq_preV hK [0, 1, 2, 3, 4, 5, 6, 7, 8, 9, 10, 11, 12, 13] rfl hP hD [0, 1, 2, 3, 4, 5, 6, 7, 8, 9, 10, 11, 12, 13, 14] rfl rfl hnw 5 0 rfl rfl) rfl rfl hl.1 rfl (lv_room (Nat.le_of_ble_eq_true rfl)) dX5_door_2 ⟨Nat.zero_le _, Nat.zero_le _⟩) hP hD hS hA [0, 1, 2, 3, 4, 5, 6, 7, 8, 9, 10, 11, 12, 13, 14] [] rfl rfl rfl (by decide) [0, 1, 2, 3, 4, 5, 6, 7, 8, 9, 10, 11, 12, 13, 14] rfl (fun _ => rfl) (fun r1 _ H locs hw hP hD hS => ?_)
  refine lv_if_eq (tgt := 36) hx hb dX5_door_5 (by decide) (fun c2 => ?_) (fun c2 => ?_)
  · have hw := gq_t c2 hw
    refine lv_iconst (v := 0) hx hb dX5_door_36 (by decide) ?_
    exact hz 0 Mdo _ _ _ _ dX5_door_37 gq_zb0 hw hP hD hS
  · have hw := gq_f c2 hw
    refine lv_aload_n hx hb dX5_door_8 rfl (lv_at hl 0 rfl) ?_
    refine lv_iload_n hx hb dX5_door_9 rfl (lv_at hl 2 rfl) ?_
    refine gq_calli (wsN := fun _ => (wdM ad ck Mp Mv Mb Me Md Mdo Mk Mm Mta Mkn Mti Mrl Mrr Mt Mn Mw Mwl Mws Mf Mpa Mne)) (va_runV (As := [.int p2]) (rest := []) ⟨hx, hb, hml, hown, hts⟩ (c_X5_isPlace l D ad ck H.size Mp Mv Mb Me Md Mdo Mk Mm Mta Mkn Mti Mrl Mrr Mt Mn Mw Mwl Mws Mf Mpa Mne p2 _ hw) (cwV 1 hts gX5_door_X5_isPlace rfl rfl rfl (by decide +kernel) ⟨Nat.le_of_ble_eq_true rfl, Nat.le_of_ble_eq_true rfl⟩) (gq_preV hK [0, 1, 2, 3, 4, 5, 6, 7, 8, 9, 10, 11, 12, 13] rfl hP hD [0, 1, 2, 3, 4, 5, 6, 7, 8, 9, 10, 11, 12, 13, 14] rfl rfl hnw 5 0 rfl rfl) rfl rfl hl.1 rfl (lv_room (Nat.le_of_ble_eq_true rfl)) dX5_door_10 ⟨Nat.zero_le _, Nat.zero_le _⟩) hP hD hS hA [0, 1, 2, 3, 4, 5, 6, 7, 8, 9, 10, 11, 12, 13, 14] [] rfl rfl rfl (by decide) [0, 1, 2, 3, 4, 5, 6, 7, 8, 9, 10, 11, 12, 13, 14] rfl (fun _ => rfl) (fun r3 _ H locs hw hP hD hS => ?_)
    refine lv_if_eq (tgt := 36) hx hb dX5_door_13 (by decide) (fun c4 => ?_) (fun c4 => ?_)
    · have hw := gq_t c4 hw
      refine lv_iconst (v := 0) hx hb dX5_door_36 (by decide) ?_
      exact hz 0 Mdo _ _ _ _ dX5_door_37 gq_zb0 hw hP hD hS
    · have hw := gq_f c4 hw
      refine lv_iload_n hx hb dX5_door_16 rfl (lv_at hl 1 rfl) ?_
      refine lv_iload_n hx hb dX5_door_17 rfl (lv_at hl 2 rfl) ?_
      refine lv_icmp_eq (tgt := 36) hx hb dX5_door_18 (by decide) (fun c5 => ?_) (fun c5 => ?_)
      · have hw := gq_t c5 hw
        refine lv_iconst (v := 0) hx hb dX5_door_36 (by decide) ?_
        exact hz 0 Mdo _ _ _ _ dX5_door_37 gq_zb0 hw hP hD hS
      · have hw := gq_f c5 hw
        refine lv_aload_n hx hb dX5_door_21 rfl (lv_at hl 0 rfl) ?_
        refine va_get (D := D) (ci := 5) (v := .ref (ad 17)) (C := RX5) (T := TX5) (N := 21) hx hb hts iX5_door_X5 hown hK hP 0 rfl rfl 5 (by decide) (hts (.fieldLink RX5 19 "DecoyHouseModel" "door" "[Z") (by decide +kernel)) (fun _ h9 => h9) rfl dX5_door_22 ?_
        refine lv_bipush (v := 9) hx hb dX5_door_25 (by decide) ?_
        refine lv_iload_n hx hb dX5_door_27 rfl (lv_at hl 1 rfl) ?_
        refine lv_imul hx hb dX5_door_28 ?_
        refine lv_iload_n hx hb dX5_door_29 rfl (lv_at hl 2 rfl) ?_
        refine lv_iadd hx hb dX5_door_30 ?_
        refine va_zald hx hb hK hP 1 0 rfl rfl hw.1 dX5_door_31 ?_
        have hw := hw.2
        refine lv_iload_n hx hb dX5_door_32 rfl (lv_at hl 3 rfl) ?_
        refine lv_icmp_ne (tgt := 38) hx hb dX5_door_33 (by decide) (fun c6 => ?_) (fun c6 => ?_)
        · have hw := gq_f c6 hw
          refine lv_aload_n hx hb dX5_door_38 rfl (lv_at hl 0 rfl) ?_
          refine va_get (D := D) (ci := 5) (v := .ref (ad 17)) (C := RX5) (T := TX5) (N := 21) hx hb hts iX5_door_X5 hown hK hP 0 rfl rfl 5 (by decide) (hts (.fieldLink RX5 19 "DecoyHouseModel" "door" "[Z") (by decide +kernel)) (fun _ h9 => h9) rfl dX5_door_39 ?_
          refine lv_bipush (v := 9) hx hb dX5_door_42 (by decide) ?_
          refine lv_iload_n hx hb dX5_door_44 rfl (lv_at hl 1 rfl) ?_
          refine lv_imul hx hb dX5_door_45 ?_
          refine lv_iload_n hx hb dX5_door_46 rfl (lv_at hl 2 rfl) ?_
          refine lv_iadd hx hb dX5_door_47 ?_
          refine lv_iload_n hx hb dX5_door_48 rfl (lv_at hl 3 rfl) ?_
          refine va_zast hx hb hK hP hD hS 1 0 rfl rfl hw.1 dX5_door_49 (fun H locs hP hD hS => ?_)
          obtain ⟨Mdo_7, eMdo_7⟩ : ∃ y : Nat → Int32, y = upd Mdo (((9 * p1) + p2)).toNatClampNeg (vp_nar .boolean p3) := ⟨_, rfl⟩
          have hw := gq_at1 hw.2 eMdo_7
          have hP : va_P D vwCl (wdM ad ck Mp Mv Mb Me Md Mdo_7 Mk Mm Mta Mkn Mti Mrl Mrr Mt Mn Mw Mwl Mws Mf Mpa Mne) H := by rw [eMdo_7]; exact hP
          have hD : va_D A (wdM ad ck Mp Mv Mb Me Md Mdo_7 Mk Mm Mta Mkn Mti Mrl Mrr Mt Mn Mw Mwl Mws Mf Mpa Mne) := by rw [eMdo_7]; exact hD
          refine lv_iconst (v := 1) hx hb dX5_door_50 (by decide) ?_
          exact hz 1 Mdo_7 _ _ _ _ dX5_door_51 gq_zb1 hw hP hD hS
        · have hw := gq_t c6 hw
          refine lv_iconst (v := 0) hx hb dX5_door_36 (by decide) ?_
          exact hz 0 Mdo _ _ _ _ dX5_door_37 gq_zb0 hw hP hD hS

def wp_X5_is (p1 : Int32) (p2 : Int32) (Mp : Int32) (Md : Int32) (Mk : Nat → Int32) (post : Int32 → (Nat → Int32) → Prop) : Prop :=
  wp_X5_isPlace p1 Mp (fun (r1 : Int32) => (if r1 = 0 then post 0 Mk else wp_X5_isIn p2 0 2 (fun (r3 : Int32) => (if r3 = 0 then post 0 Mk else wp_X5_isDecoy p1 Md (fun (r5 : Int32) => (if r5 = 0 then vp_in p1 9 ∧ gq_nm (upd Mk (p1).toNatClampNeg p2) (fun Mk_7 : Nat → Int32 => post 1 Mk_7) else post 0 Mk))))))

theorem iX5_is_X5 : ∀ w ∈ wsX50, w ∈ wsX5_is := by decide +kernel
set_option maxHeartbeats 4000000 in
set_option maxRecDepth 100000 in
theorem c_X5_is (l : Launch) (D : va_G) (ad : Nat → Nat) (ck : Nat → ClassId) (sz : Nat) (Mp : Int32) (Mv : Int32) (Mb : Int32) (Me : Int32) (Md : Int32) (Mdo : Nat → Int32) (Mk : Nat → Int32) (Mm : Nat → Int32) (Mta : Nat → Int32) (Mkn : Nat → Int32) (Mti : Nat → Int32) (Mrl : Nat → Int32) (Mrr : Nat → Int32) (Mt : Nat → Int32) (Mn : Int32) (Mw : Nat → Int32) (Mwl : Nat → Int32) (Mws : Nat → Int32) (Mf : Int32) (Mpa : Nat → Int32) (Mne : Nat → Int32) (p1 : Int32) (p2 : Int32) (post : Int32 → (Nat → Int32) → Prop) (hw : wp_X5_is p1 p2 Mp Md Mk post) : Met l yX5_is wsX5_is { frames := 2, cells := 0, slots := 0, locals := 43 } (va_Pc [.ref (ad 16), .int p1, .int p2] (gq_pre D (tyM ck) (wdM ad ck Mp Mv Mb Me Md Mdo Mk Mm Mta Mkn Mti Mrl Mrr Mt Mn Mw Mwl Mws Mf Mpa Mne) sz)) (va_Qi (fun (r : Int32) (u : (Nat → Int32)) => post r u) (gq_at D (va_A (wdM ad ck Mp Mv Mb Me Md Mdo Mk Mm Mta Mkn Mti Mrl Mrr Mt Mn Mw Mwl Mws Mf Mpa Mne) sz) (fun (u : (Nat → Int32)) => (wdM ad ck Mp Mv Mb Me Md Mdo u Mm Mta Mkn Mti Mrl Mrr Mt Mn Mw Mwl Mws Mf Mpa Mne))) (va_A (wdM ad ck Mp Mv Mb Me Md Mdo Mk Mm Mta Mkn Mti Mrl Mrr Mt Mn Mw Mwl Mws Mf Mpa Mne) sz)) 0 0 (va_A (wdM ad ck Mp Mv Mb Me Md Mdo Mk Mm Mta Mkn Mti Mrl Mrr Mt Mn Mw Mwl Mws Mf Mpa Mne) sz) := by
  refine gq_metz (cc := cX5_is) (maxL := 3) (lv := [(0, .ref (ad 16)), (1, .int p1), (2, .int p2)]) (by decide) rfl (Nat.le_of_ble_eq_true rfl) rfl ?_
  intro p e s m below meth c A Q ls H locs hx hb hml hown hts hnw hA hK hP hD hS hl hz
  refine lv_aload_n hx hb dX5_is_0 rfl (lv_at hl 0 rfl) ?_
  refine lv_iload_n hx hb dX5_is_1 rfl (lv_at hl 1 rfl) ?_
  refine gq_calli (wsN := fun _ => (wdM ad ck Mp Mv Mb Me Md Mdo Mk Mm Mta Mkn Mti Mrl Mrr Mt Mn Mw Mwl Mws Mf Mpa Mne)) (va_runV (As := [.int p1]) (rest := []) ⟨hx, hb, hml, hown, hts⟩ (c_X5_isPlace l D ad ck H.size Mp Mv Mb Me Md Mdo Mk Mm Mta Mkn Mti Mrl Mrr Mt Mn Mw Mwl Mws Mf Mpa Mne p1 _ hw) (cwV 1 hts gX5_is_X5_isPlace rfl rfl rfl (by decide +kernel) ⟨Nat.le_of_ble_eq_true rfl, Nat.le_of_ble_eq_true rfl⟩) (gq_preV hK [0, 1, 2, 3, 4, 5, 6, 7, 8, 9, 10, 11, 12, 13] rfl hP hD [0, 1, 2, 3, 4, 5, 6, 7, 8, 9, 10, 11, 12, 13, 14] rfl rfl hnw 5 0 rfl rfl) rfl rfl hl.1 rfl (lv_room (Nat.le_of_ble_eq_true rfl)) dX5_is_2 ⟨Nat.zero_le _, Nat.zero_le _⟩) hP hD hS hA [0, 1, 2, 3, 4, 5, 6, 7, 8, 9, 10, 11, 12, 13, 14] [] rfl rfl rfl (by decide) [0, 1, 2, 3, 4, 5, 6, 7, 8, 9, 10, 11, 12, 13, 14] rfl (fun _ => rfl) (fun r1 _ H locs hw hP hD hS => ?_)
  refine lv_if_eq (tgt := 25) hx hb dX5_is_5 (by decide) (fun c2 => ?_) (fun c2 => ?_)
  · have hw := gq_t c2 hw
    refine lv_iconst (v := 0) hx hb dX5_is_25 (by decide) ?_
    exact hz 0 Mk _ _ _ _ dX5_is_26 gq_zb0 hw hP hD hS
  · have hw := gq_f c2 hw
    refine lv_iload_n hx hb dX5_is_8 rfl (lv_at hl 2 rfl) ?_
    refine lv_iconst (v := 0) hx hb dX5_is_9 (by decide) ?_
    refine lv_iconst (v := 2) hx hb dX5_is_10 (by decide) ?_
    refine gq_calli (wsN := fun _ => (wdM ad ck Mp Mv Mb Me Md Mdo Mk Mm Mta Mkn Mti Mrl Mrr Mt Mn Mw Mwl Mws Mf Mpa Mne)) (va_runS (As := [.int p2, .int 0, .int 2]) (rest := []) ⟨hx, hb, hml, hown, hts⟩ (c_X5_isIn l D H.size p2 0 2 _ hw) (va_cwS 3 hts gX5_is_X5_isIn rfl rfl rfl (by decide +kernel) ⟨Nat.le_of_ble_eq_true rfl, Nat.le_of_ble_eq_true rfl⟩) (gq_preS hK [] rfl hP hD [] rfl rfl hnw) rfl rfl hl.1 rfl (lv_room (Nat.le_of_ble_eq_true rfl)) dX5_is_11 ⟨Nat.zero_le _, Nat.zero_le _⟩) hP hD hS hA [] [0, 1, 2, 3, 4, 5, 6, 7, 8, 9, 10, 11, 12, 13, 14] rfl rfl rfl (by decide) [0, 1, 2, 3, 4, 5, 6, 7, 8, 9, 10, 11, 12, 13, 14] rfl (fun _ => rfl) (fun r3 _ H locs hw hP hD hS => ?_)
    refine lv_if_eq (tgt := 25) hx hb dX5_is_14 (by decide) (fun c4 => ?_) (fun c4 => ?_)
    · have hw := gq_t c4 hw
      refine lv_iconst (v := 0) hx hb dX5_is_25 (by decide) ?_
      exact hz 0 Mk _ _ _ _ dX5_is_26 gq_zb0 hw hP hD hS
    · have hw := gq_f c4 hw
      refine lv_aload_n hx hb dX5_is_17 rfl (lv_at hl 0 rfl) ?_
      refine lv_iload_n hx hb dX5_is_18 rfl (lv_at hl 1 rfl) ?_
      refine gq_calli (wsN := fun _ => (wdM ad ck Mp Mv Mb Me Md Mdo Mk Mm Mta Mkn Mti Mrl Mrr Mt Mn Mw Mwl Mws Mf Mpa Mne)) (va_runV (As := [.int p1]) (rest := []) ⟨hx, hb, hml, hown, hts⟩ (c_X5_isDecoy l D ad ck H.size Mp Mv Mb Me Md Mdo Mk Mm Mta Mkn Mti Mrl Mrr Mt Mn Mw Mwl Mws Mf Mpa Mne p1 _ hw) (cwV 1 hts gX5_is_X5_isDecoy rfl rfl rfl (by decide +kernel) ⟨Nat.le_of_ble_eq_true rfl, Nat.le_of_ble_eq_true rfl⟩) (gq_preV hK [0, 1, 2, 3, 4, 5, 6, 7, 8, 9, 10, 11, 12, 13] rfl hP hD [0, 1, 2, 3, 4, 5, 6, 7, 8, 9, 10, 11, 12, 13, 14] rfl rfl hnw 5 0 rfl rfl) rfl rfl hl.1 rfl (lv_room (Nat.le_of_ble_eq_true rfl)) dX5_is_19 ⟨Nat.zero_le _, Nat.zero_le _⟩) hP hD hS hA [0, 1, 2, 3, 4, 5, 6, 7, 8, 9, 10, 11, 12, 13, 14] [] rfl rfl rfl (by decide) [0, 1, 2, 3, 4, 5, 6, 7, 8, 9, 10, 11, 12, 13, 14] rfl (fun _ => rfl) (fun r5 _ H locs hw hP hD hS => ?_)
      refine lv_if_eq (tgt := 27) hx hb dX5_is_22 (by decide) (fun c6 => ?_) (fun c6 => ?_)
      · have hw := gq_t c6 hw
        refine lv_aload_n hx hb dX5_is_27 rfl (lv_at hl 0 rfl) ?_
        refine va_get (D := D) (ci := 5) (v := .ref (ad 18)) (C := RX5) (T := TX5) (N := 21) hx hb hts iX5_is_X5 hown hK hP 0 rfl rfl 6 (by decide) (hts (.fieldLink RX5 23 "DecoyHouseModel" "kind" "[I") (by decide +kernel)) (fun _ h9 => h9) rfl dX5_is_28 ?_
        refine lv_iload_n hx hb dX5_is_31 rfl (lv_at hl 1 rfl) ?_
        refine lv_iload_n hx hb dX5_is_32 rfl (lv_at hl 2 rfl) ?_
        refine va_iast hx hb hK hP hD hS 2 1 rfl rfl hw.1 dX5_is_33 (fun H locs hP hD hS => ?_)
        obtain ⟨Mk_7, eMk_7⟩ : ∃ y : Nat → Int32, y = upd Mk (p1).toNatClampNeg p2 := ⟨_, rfl⟩
        have hw := gq_at1 hw.2 eMk_7
        have hP : va_P D vwCl (wdM ad ck Mp Mv Mb Me Md Mdo Mk_7 Mm Mta Mkn Mti Mrl Mrr Mt Mn Mw Mwl Mws Mf Mpa Mne) H := by rw [eMk_7]; exact hP
        have hD : va_D A (wdM ad ck Mp Mv Mb Me Md Mdo Mk_7 Mm Mta Mkn Mti Mrl Mrr Mt Mn Mw Mwl Mws Mf Mpa Mne) := by rw [eMk_7]; exact hD
        refine lv_iconst (v := 1) hx hb dX5_is_34 (by decide) ?_
        exact hz 1 Mk_7 _ _ _ _ dX5_is_35 gq_zb1 hw hP hD hS
      · have hw := gq_f c6 hw
        refine lv_iconst (v := 0) hx hb dX5_is_25 (by decide) ?_
        exact hz 0 Mk _ _ _ _ dX5_is_26 gq_zb0 hw hP hD hS

def wp_X5_looks (p1 : Int32) (p2 : Int32) (Mp : Int32) (Mm : Nat → Int32) (post : Int32 → (Nat → Int32) → Prop) : Prop :=
  wp_X5_isPlace p1 Mp (fun (r1 : Int32) => (if r1 = 0 then post 0 Mm else wp_X5_isIn p2 0 255 (fun (r3 : Int32) => (if r3 = 0 then post 0 Mm else vp_in p1 9 ∧ gq_nm (upd Mm (p1).toNatClampNeg p2) (fun Mm_5 : Nat → Int32 => post 1 Mm_5)))))

theorem iX5_looks_X5 : ∀ w ∈ wsX50, w ∈ wsX5_looks := by decide +kernel
set_option maxHeartbeats 4000000 in
set_option maxRecDepth 100000 in
theorem c_X5_looks (l : Launch) (D : va_G) (ad : Nat → Nat) (ck : Nat → ClassId) (sz : Nat) (Mp : Int32) (Mv : Int32) (Mb : Int32) (Me : Int32) (Md : Int32) (Mdo : Nat → Int32) (Mk : Nat → Int32) (Mm : Nat → Int32) (Mta : Nat → Int32) (Mkn : Nat → Int32) (Mti : Nat → Int32) (Mrl : Nat → Int32) (Mrr : Nat → Int32) (Mt : Nat → Int32) (Mn : Int32) (Mw : Nat → Int32) (Mwl : Nat → Int32) (Mws : Nat → Int32) (Mf : Int32) (Mpa : Nat → Int32) (Mne : Nat → Int32) (p1 : Int32) (p2 : Int32) (post : Int32 → (Nat → Int32) → Prop) (hw : wp_X5_looks p1 p2 Mp Mm post) : Met l yX5_looks wsX5_looks { frames := 2, cells := 0, slots := 0, locals := 43 } (va_Pc [.ref (ad 16), .int p1, .int p2] (gq_pre D (tyM ck) (wdM ad ck Mp Mv Mb Me Md Mdo Mk Mm Mta Mkn Mti Mrl Mrr Mt Mn Mw Mwl Mws Mf Mpa Mne) sz)) (va_Qi (fun (r : Int32) (u : (Nat → Int32)) => post r u) (gq_at D (va_A (wdM ad ck Mp Mv Mb Me Md Mdo Mk Mm Mta Mkn Mti Mrl Mrr Mt Mn Mw Mwl Mws Mf Mpa Mne) sz) (fun (u : (Nat → Int32)) => (wdM ad ck Mp Mv Mb Me Md Mdo Mk u Mta Mkn Mti Mrl Mrr Mt Mn Mw Mwl Mws Mf Mpa Mne))) (va_A (wdM ad ck Mp Mv Mb Me Md Mdo Mk Mm Mta Mkn Mti Mrl Mrr Mt Mn Mw Mwl Mws Mf Mpa Mne) sz)) 0 0 (va_A (wdM ad ck Mp Mv Mb Me Md Mdo Mk Mm Mta Mkn Mti Mrl Mrr Mt Mn Mw Mwl Mws Mf Mpa Mne) sz) := by
  refine gq_metz (cc := cX5_looks) (maxL := 3) (lv := [(0, .ref (ad 16)), (1, .int p1), (2, .int p2)]) (by decide) rfl (Nat.le_of_ble_eq_true rfl) rfl ?_
  intro p e s m below meth c A Q ls H locs hx hb hml hown hts hnw hA hK hP hD hS hl hz
  refine lv_aload_n hx hb dX5_looks_0 rfl (lv_at hl 0 rfl) ?_
  refine lv_iload_n hx hb dX5_looks_1 rfl (lv_at hl 1 rfl) ?_
  refine gq_calli (wsN := fun _ => (wdM ad ck Mp Mv Mb Me Md Mdo Mk Mm Mta Mkn Mti Mrl Mrr Mt Mn Mw Mwl Mws Mf Mpa Mne)) (va_runV (As := [.int p1]) (rest := []) ⟨hx, hb, hml, hown, hts⟩ (c_X5_isPlace l D ad ck H.size Mp Mv Mb Me Md Mdo Mk Mm Mta Mkn Mti Mrl Mrr Mt Mn Mw Mwl Mws Mf Mpa Mne p1 _ hw) (cwV 1 hts gX5_looks_X5_isPlace rfl rfl rfl (by decide +kernel) ⟨Nat.le_of_ble_eq_true rfl, Nat.le_of_ble_eq_true rfl⟩) (gq_preV hK [0, 1, 2, 3, 4, 5, 6, 7, 8, 9, 10, 11, 12, 13] rfl hP hD [0, 1, 2, 3, 4, 5, 6, 7, 8, 9, 10, 11, 12, 13, 14] rfl rfl hnw 5 0 rfl rfl) rfl rfl hl.1 rfl (lv_room (Nat.le_of_ble_eq_true rfl)) dX5_looks_2 ⟨Nat.zero_le _, Nat.zero_le _⟩) hP hD hS hA [0, 1, 2, 3, 4, 5, 6, 7, 8, 9, 10, 11, 12, 13, 14] [] rfl rfl rfl (by decide) [0, 1, 2, 3, 4, 5, 6, 7, 8, 9, 10, 11, 12, 13, 14] rfl (fun _ => rfl) (fun r1 _ H locs hw hP hD hS => ?_)
  refine lv_if_eq (tgt := 19) hx hb dX5_looks_5 (by decide) (fun c2 => ?_) (fun c2 => ?_)
  · have hw := gq_t c2 hw
    refine lv_iconst (v := 0) hx hb dX5_looks_19 (by decide) ?_
    exact hz 0 Mm _ _ _ _ dX5_looks_20 gq_zb0 hw hP hD hS
  · have hw := gq_f c2 hw
    refine lv_iload_n hx hb dX5_looks_8 rfl (lv_at hl 2 rfl) ?_
    refine lv_iconst (v := 0) hx hb dX5_looks_9 (by decide) ?_
    refine lv_sipush (v := 255) hx hb dX5_looks_10 (by decide) ?_
    refine gq_calli (wsN := fun _ => (wdM ad ck Mp Mv Mb Me Md Mdo Mk Mm Mta Mkn Mti Mrl Mrr Mt Mn Mw Mwl Mws Mf Mpa Mne)) (va_runS (As := [.int p2, .int 0, .int 255]) (rest := []) ⟨hx, hb, hml, hown, hts⟩ (c_X5_isIn l D H.size p2 0 255 _ hw) (va_cwS 3 hts gX5_looks_X5_isIn rfl rfl rfl (by decide +kernel) ⟨Nat.le_of_ble_eq_true rfl, Nat.le_of_ble_eq_true rfl⟩) (gq_preS hK [] rfl hP hD [] rfl rfl hnw) rfl rfl hl.1 rfl (lv_room (Nat.le_of_ble_eq_true rfl)) dX5_looks_13 ⟨Nat.zero_le _, Nat.zero_le _⟩) hP hD hS hA [] [0, 1, 2, 3, 4, 5, 6, 7, 8, 9, 10, 11, 12, 13, 14] rfl rfl rfl (by decide) [0, 1, 2, 3, 4, 5, 6, 7, 8, 9, 10, 11, 12, 13, 14] rfl (fun _ => rfl) (fun r3 _ H locs hw hP hD hS => ?_)
    refine lv_if_ne (tgt := 21) hx hb dX5_looks_16 (by decide) (fun c4 => ?_) (fun c4 => ?_)
    · have hw := gq_f c4 hw
      refine lv_aload_n hx hb dX5_looks_21 rfl (lv_at hl 0 rfl) ?_
      refine va_get (D := D) (ci := 5) (v := .ref (ad 19)) (C := RX5) (T := TX5) (N := 21) hx hb hts iX5_looks_X5 hown hK hP 0 rfl rfl 7 (by decide) (hts (.fieldLink RX5 27 "DecoyHouseModel" "marks" "[I") (by decide +kernel)) (fun _ h9 => h9) rfl dX5_looks_22 ?_
      refine lv_iload_n hx hb dX5_looks_25 rfl (lv_at hl 1 rfl) ?_
      refine lv_iload_n hx hb dX5_looks_26 rfl (lv_at hl 2 rfl) ?_
      refine va_iast hx hb hK hP hD hS 3 2 rfl rfl hw.1 dX5_looks_27 (fun H locs hP hD hS => ?_)
      obtain ⟨Mm_5, eMm_5⟩ : ∃ y : Nat → Int32, y = upd Mm (p1).toNatClampNeg p2 := ⟨_, rfl⟩
      have hw := gq_at1 hw.2 eMm_5
      have hP : va_P D vwCl (wdM ad ck Mp Mv Mb Me Md Mdo Mk Mm_5 Mta Mkn Mti Mrl Mrr Mt Mn Mw Mwl Mws Mf Mpa Mne) H := by rw [eMm_5]; exact hP
      have hD : va_D A (wdM ad ck Mp Mv Mb Me Md Mdo Mk Mm_5 Mta Mkn Mti Mrl Mrr Mt Mn Mw Mwl Mws Mf Mpa Mne) := by rw [eMm_5]; exact hD
      refine lv_iconst (v := 1) hx hb dX5_looks_28 (by decide) ?_
      exact hz 1 Mm_5 _ _ _ _ dX5_looks_29 gq_zb1 hw hP hD hS
    · have hw := gq_t c4 hw
      refine lv_iconst (v := 0) hx hb dX5_looks_19 (by decide) ?_
      exact hz 0 Mm _ _ _ _ dX5_looks_20 gq_zb0 hw hP hD hS

def wp_X5_visible (p1 : Int32) (Mv : Int32) (post : Int32 → Int32 → Prop) : Prop :=
  wp_X5_isIn p1 0 255 (fun (r1 : Int32) => (if r1 = 0 then post 0 Mv else post 1 p1))

theorem iX5_visible_X5 : ∀ w ∈ wsX50, w ∈ wsX5_visible := by decide +kernel
set_option maxHeartbeats 4000000 in
set_option maxRecDepth 100000 in
theorem c_X5_visible (l : Launch) (D : va_G) (ad : Nat → Nat) (ck : Nat → ClassId) (sz : Nat) (Mp : Int32) (Mv : Int32) (Mb : Int32) (Me : Int32) (Md : Int32) (Mdo : Nat → Int32) (Mk : Nat → Int32) (Mm : Nat → Int32) (Mta : Nat → Int32) (Mkn : Nat → Int32) (Mti : Nat → Int32) (Mrl : Nat → Int32) (Mrr : Nat → Int32) (Mt : Nat → Int32) (Mn : Int32) (Mw : Nat → Int32) (Mwl : Nat → Int32) (Mws : Nat → Int32) (Mf : Int32) (Mpa : Nat → Int32) (Mne : Nat → Int32) (p1 : Int32) (post : Int32 → Int32 → Prop) (hw : wp_X5_visible p1 Mv post) : Met l yX5_visible wsX5_visible { frames := 1, cells := 0, slots := 0, locals := 22 } (va_Pc [.ref (ad 16), .int p1] (gq_pre D (tyM ck) (wdM ad ck Mp Mv Mb Me Md Mdo Mk Mm Mta Mkn Mti Mrl Mrr Mt Mn Mw Mwl Mws Mf Mpa Mne) sz)) (va_Qi (fun (r : Int32) (u : Int32) => post r u) (gq_at D (va_A (wdM ad ck Mp Mv Mb Me Md Mdo Mk Mm Mta Mkn Mti Mrl Mrr Mt Mn Mw Mwl Mws Mf Mpa Mne) sz) (fun (u : Int32) => (wdM ad ck Mp u Mb Me Md Mdo Mk Mm Mta Mkn Mti Mrl Mrr Mt Mn Mw Mwl Mws Mf Mpa Mne))) (va_A (wdM ad ck Mp Mv Mb Me Md Mdo Mk Mm Mta Mkn Mti Mrl Mrr Mt Mn Mw Mwl Mws Mf Mpa Mne) sz)) 0 0 (va_A (wdM ad ck Mp Mv Mb Me Md Mdo Mk Mm Mta Mkn Mti Mrl Mrr Mt Mn Mw Mwl Mws Mf Mpa Mne) sz) := by
  refine gq_metz (cc := cX5_visible) (maxL := 2) (lv := [(0, .ref (ad 16)), (1, .int p1)]) (by decide) rfl (Nat.le_of_ble_eq_true rfl) rfl ?_
  intro p e s m below meth c A Q ls H locs hx hb hml hown hts hnw hA hK hP hD hS hl hz
  refine lv_iload_n hx hb dX5_visible_0 rfl (lv_at hl 1 rfl) ?_
  refine lv_iconst (v := 0) hx hb dX5_visible_1 (by decide) ?_
  refine lv_sipush (v := 255) hx hb dX5_visible_2 (by decide) ?_
  refine gq_calli (wsN := fun _ => (wdM ad ck Mp Mv Mb Me Md Mdo Mk Mm Mta Mkn Mti Mrl Mrr Mt Mn Mw Mwl Mws Mf Mpa Mne)) (va_runS (As := [.int p1, .int 0, .int 255]) (rest := []) ⟨hx, hb, hml, hown, hts⟩ (c_X5_isIn l D H.size p1 0 255 _ hw) (va_cwS 3 hts gX5_visible_X5_isIn rfl rfl rfl (by decide +kernel) ⟨Nat.le_of_ble_eq_true rfl, Nat.le_of_ble_eq_true rfl⟩) (gq_preS hK [] rfl hP hD [] rfl rfl hnw) rfl rfl hl.1 rfl (lv_room (Nat.le_of_ble_eq_true rfl)) dX5_visible_5 ⟨Nat.zero_le _, Nat.zero_le _⟩) hP hD hS hA [] [0, 1, 2, 3, 4, 5, 6, 7, 8, 9, 10, 11, 12, 13, 14] rfl rfl rfl (by decide) [0, 1, 2, 3, 4, 5, 6, 7, 8, 9, 10, 11, 12, 13, 14] rfl (fun _ => rfl) (fun r1 _ H locs hw hP hD hS => ?_)
  refine lv_if_ne (tgt := 13) hx hb dX5_visible_8 (by decide) (fun c2 => ?_) (fun c2 => ?_)
  · have hw := gq_f c2 hw
    refine lv_aload_n hx hb dX5_visible_13 rfl (lv_at hl 0 rfl) ?_
    refine lv_iload_n hx hb dX5_visible_14 rfl (lv_at hl 1 rfl) ?_
    refine va_put (D := D) (ci := 5) (v := .int p1) (ty := .int) (C := RX5) (T := TX5) (N := 21) hx hb hts iX5_visible_X5 tyX5 tyX5_ok nmX5 hown hK hP hD hS 0 rfl rfl 1 (by decide) (hts (.fieldLink RX5 13 "DecoyHouseModel" "visible" "I") (by decide +kernel)) (fun _ h9 => h9) rfl (by decide +kernel) rfl rfl (Nat.le_of_ble_eq_true rfl) dX5_visible_15 (fun H locs hP hD hS => ?_)
    have hP : va_P D vwCl (wdM ad ck Mp p1 Mb Me Md Mdo Mk Mm Mta Mkn Mti Mrl Mrr Mt Mn Mw Mwl Mws Mf Mpa Mne) H := hP
    have hD : va_D A (wdM ad ck Mp p1 Mb Me Md Mdo Mk Mm Mta Mkn Mti Mrl Mrr Mt Mn Mw Mwl Mws Mf Mpa Mne) := hD
    refine lv_iconst (v := 1) hx hb dX5_visible_18 (by decide) ?_
    exact hz 1 p1 _ _ _ _ dX5_visible_19 gq_zb1 hw hP hD hS
  · have hw := gq_t c2 hw
    refine lv_iconst (v := 0) hx hb dX5_visible_11 (by decide) ?_
    exact hz 0 Mv _ _ _ _ dX5_visible_12 gq_zb0 hw hP hD hS

def wl_X5_round_34 (p3 : Int32) (p4 : Int32) (Mp : Int32) (Mti : Nat → Int32) (Mrl : Nat → Int32) (Mrr : Nat → Int32)  (X65 : Int32 → Prop) (post : Int32 → (Nat → Int32) → (Nat → Int32) → (Nat → Int32) → Prop) : Nat → Int32 → Prop
  | 0, _ => False
  | n34 + 1, x7 => (if p3 ≤ x7 then X65 x7 else wp_X5_isPlace ((p4 >>> ((4 * x7) &&& 31)) &&& 15) Mp (fun (r9 : Int32) => (if r9 = 0 then post 0 Mti Mrl Mrr else gq_nm (x7 + 1) (fun v11 : Int32 => wl_X5_round_34 p3 p4 Mp Mti Mrl Mrr X65 post n34 v11))))

def wl_X5_round_82 (p1 : Int32) (p3 : Int32) (p4 : Int32) (Mti_13 : Nat → Int32) (Mrl_14 : Nat → Int32)   (post : Int32 → (Nat → Int32) → (Nat → Int32) → (Nat → Int32) → Prop) : Nat → Int32 → (Nat → Int32) → Prop
  | 0, _, _ => False
  | n82 + 1, x15, Mrr_16 => (if p3 ≤ x15 then post 1 Mti_13 Mrl_14 Mrr_16 else vp_in ((8 * p1) + x15) 48 ∧ gq_nm (upd Mrr_16 (((8 * p1) + x15)).toNatClampNeg ((p4 >>> ((4 * x15) &&& 31)) &&& 15)) (fun Mrr_18 : Nat → Int32 => gq_nm (x15 + 1) (fun v19 : Int32 => wl_X5_round_82 p1 p3 p4 Mti_13 Mrl_14 post n82 v19 Mrr_18)))

def wp_X5_round (p1 : Int32) (p2 : Int32) (p3 : Int32) (p4 : Int32) (Mp : Int32) (Mti : Nat → Int32) (Mrl : Nat → Int32) (Mrr : Nat → Int32) (post : Int32 → (Nat → Int32) → (Nat → Int32) → (Nat → Int32) → Prop) : Prop :=
  wp_X5_isIn p1 0 5 (fun (r1 : Int32) => (if r1 = 0 then post 0 Mti Mrl Mrr else wp_X5_isIn p2 0 99 (fun (r3 : Int32) => (if r3 = 0 then post 0 Mti Mrl Mrr else wp_X5_isIn p3 0 8 (fun (r5 : Int32) => (if r5 = 0 then post 0 Mti Mrl Mrr else ∃ k34, wl_X5_round_34 p3 p4 Mp Mti Mrl Mrr (fun (y12 : Int32) => vp_in p1 6 ∧ gq_nm (upd Mti (p1).toNatClampNeg p2) (fun Mti_13 : Nat → Int32 => vp_in p1 6 ∧ gq_nm (upd Mrl (p1).toNatClampNeg p3) (fun Mrl_14 : Nat → Int32 => ∃ k82, wl_X5_round_82 p1 p3 p4 Mti_13 Mrl_14 post k82 0 Mrr))) post k34 0))))))

theorem iX5_round_X5 : ∀ w ∈ wsX50, w ∈ wsX5_round := by decide +kernel
set_option maxHeartbeats 4000000 in
set_option maxRecDepth 100000 in
theorem c_X5_round (l : Launch) (D : va_G) (ad : Nat → Nat) (ck : Nat → ClassId) (sz : Nat) (Mp : Int32) (Mv : Int32) (Mb : Int32) (Me : Int32) (Md : Int32) (Mdo : Nat → Int32) (Mk : Nat → Int32) (Mm : Nat → Int32) (Mta : Nat → Int32) (Mkn : Nat → Int32) (Mti : Nat → Int32) (Mrl : Nat → Int32) (Mrr : Nat → Int32) (Mt : Nat → Int32) (Mn : Int32) (Mw : Nat → Int32) (Mwl : Nat → Int32) (Mws : Nat → Int32) (Mf : Int32) (Mpa : Nat → Int32) (Mne : Nat → Int32) (p1 : Int32) (p2 : Int32) (p3 : Int32) (p4 : Int32) (post : Int32 → (Nat → Int32) → (Nat → Int32) → (Nat → Int32) → Prop) (hw : wp_X5_round p1 p2 p3 p4 Mp Mti Mrl Mrr post) : Met l yX5_round wsX5_round { frames := 2, cells := 0, slots := 0, locals := 43 } (va_Pc [.ref (ad 16), .int p1, .int p2, .int p3, .int p4] (gq_pre D (tyM ck) (wdM ad ck Mp Mv Mb Me Md Mdo Mk Mm Mta Mkn Mti Mrl Mrr Mt Mn Mw Mwl Mws Mf Mpa Mne) sz)) (va_Qi (fun (r : Int32) (u : (Nat → Int32) × (Nat → Int32) × (Nat → Int32)) => post r u.1 u.2.1 u.2.2) (gq_at D (va_A (wdM ad ck Mp Mv Mb Me Md Mdo Mk Mm Mta Mkn Mti Mrl Mrr Mt Mn Mw Mwl Mws Mf Mpa Mne) sz) (fun (u : (Nat → Int32) × (Nat → Int32) × (Nat → Int32)) => (wdM ad ck Mp Mv Mb Me Md Mdo Mk Mm Mta Mkn u.1 u.2.1 u.2.2 Mt Mn Mw Mwl Mws Mf Mpa Mne))) (va_A (wdM ad ck Mp Mv Mb Me Md Mdo Mk Mm Mta Mkn Mti Mrl Mrr Mt Mn Mw Mwl Mws Mf Mpa Mne) sz)) 0 0 (va_A (wdM ad ck Mp Mv Mb Me Md Mdo Mk Mm Mta Mkn Mti Mrl Mrr Mt Mn Mw Mwl Mws Mf Mpa Mne) sz) := by
  refine gq_metz (cc := cX5_round) (maxL := 6) (lv := [(0, .ref (ad 16)), (1, .int p1), (2, .int p2), (3, .int p3), (4, .int p4)]) (by decide) rfl (Nat.le_of_ble_eq_true rfl) rfl ?_
  intro p e s m below meth c A Q ls H locs hx hb hml hown hts hnw hA hK hP hD hS hl hz
  refine lv_iload_n hx hb dX5_round_0 rfl (lv_at hl 1 rfl) ?_
  refine lv_iconst (v := 0) hx hb dX5_round_1 (by decide) ?_
  refine lv_iconst (v := 5) hx hb dX5_round_2 (by decide) ?_
  refine gq_calli (wsN := fun _ => (wdM ad ck Mp Mv Mb Me Md Mdo Mk Mm Mta Mkn Mti Mrl Mrr Mt Mn Mw Mwl Mws Mf Mpa Mne)) (va_runS (As := [.int p1, .int 0, .int 5]) (rest := []) ⟨hx, hb, hml, hown, hts⟩ (c_X5_isIn l D H.size p1 0 5 _ hw) (va_cwS 3 hts gX5_round_X5_isIn rfl rfl rfl (by decide +kernel) ⟨Nat.le_of_ble_eq_true rfl, Nat.le_of_ble_eq_true rfl⟩) (gq_preS hK [] rfl hP hD [] rfl rfl hnw) rfl rfl hl.1 rfl (lv_room (Nat.le_of_ble_eq_true rfl)) dX5_round_3 ⟨Nat.zero_le _, Nat.zero_le _⟩) hP hD hS hA [] [0, 1, 2, 3, 4, 5, 6, 7, 8, 9, 10, 11, 12, 13, 14] rfl rfl rfl (by decide) [0, 1, 2, 3, 4, 5, 6, 7, 8, 9, 10, 11, 12, 13, 14] rfl (fun _ => rfl) (fun r1 _ H locs hw hP hD hS => ?_)
  refine lv_if_eq (tgt := 29) hx hb dX5_round_6 (by decide) (fun c2 => ?_) (fun c2 => ?_)
  · have hw := gq_t c2 hw
    refine lv_iconst (v := 0) hx hb dX5_round_29 (by decide) ?_
    exact hz 0 (Mti, Mrl, Mrr) _ _ _ _ dX5_round_30 gq_zb0 hw hP hD hS
  · have hw := gq_f c2 hw
    refine lv_iload_n hx hb dX5_round_9 rfl (lv_at hl 2 rfl) ?_
    refine lv_iconst (v := 0) hx hb dX5_round_10 (by decide) ?_
    refine lv_bipush (v := 99) hx hb dX5_round_11 (by decide) ?_
    refine gq_calli (wsN := fun _ => (wdM ad ck Mp Mv Mb Me Md Mdo Mk Mm Mta Mkn Mti Mrl Mrr Mt Mn Mw Mwl Mws Mf Mpa Mne)) (va_runS (As := [.int p2, .int 0, .int 99]) (rest := []) ⟨hx, hb, hml, hown, hts⟩ (c_X5_isIn l D H.size p2 0 99 _ hw) (va_cwS 3 hts gX5_round_X5_isIn rfl rfl rfl (by decide +kernel) ⟨Nat.le_of_ble_eq_true rfl, Nat.le_of_ble_eq_true rfl⟩) (gq_preS hK [] rfl hP hD [] rfl rfl hnw) rfl rfl hl.1 rfl (lv_room (Nat.le_of_ble_eq_true rfl)) dX5_round_13 ⟨Nat.zero_le _, Nat.zero_le _⟩) hP hD hS hA [] [0, 1, 2, 3, 4, 5, 6, 7, 8, 9, 10, 11, 12, 13, 14] rfl rfl rfl (by decide) [0, 1, 2, 3, 4, 5, 6, 7, 8, 9, 10, 11, 12, 13, 14] rfl (fun _ => rfl) (fun r3 _ H locs hw hP hD hS => ?_)
    refine lv_if_eq (tgt := 29) hx hb dX5_round_16 (by decide) (fun c4 => ?_) (fun c4 => ?_)
    · have hw := gq_t c4 hw
      refine lv_iconst (v := 0) hx hb dX5_round_29 (by decide) ?_
      exact hz 0 (Mti, Mrl, Mrr) _ _ _ _ dX5_round_30 gq_zb0 hw hP hD hS
    · have hw := gq_f c4 hw
      refine lv_iload_n hx hb dX5_round_19 rfl (lv_at hl 3 rfl) ?_
      refine lv_iconst (v := 0) hx hb dX5_round_20 (by decide) ?_
      refine lv_bipush (v := 8) hx hb dX5_round_21 (by decide) ?_
      refine gq_calli (wsN := fun _ => (wdM ad ck Mp Mv Mb Me Md Mdo Mk Mm Mta Mkn Mti Mrl Mrr Mt Mn Mw Mwl Mws Mf Mpa Mne)) (va_runS (As := [.int p3, .int 0, .int 8]) (rest := []) ⟨hx, hb, hml, hown, hts⟩ (c_X5_isIn l D H.size p3 0 8 _ hw) (va_cwS 3 hts gX5_round_X5_isIn rfl rfl rfl (by decide +kernel) ⟨Nat.le_of_ble_eq_true rfl, Nat.le_of_ble_eq_true rfl⟩) (gq_preS hK [] rfl hP hD [] rfl rfl hnw) rfl rfl hl.1 rfl (lv_room (Nat.le_of_ble_eq_true rfl)) dX5_round_23 ⟨Nat.zero_le _, Nat.zero_le _⟩) hP hD hS hA [] [0, 1, 2, 3, 4, 5, 6, 7, 8, 9, 10, 11, 12, 13, 14] rfl rfl rfl (by decide) [0, 1, 2, 3, 4, 5, 6, 7, 8, 9, 10, 11, 12, 13, 14] rfl (fun _ => rfl) (fun r5 _ H locs hw hP hD hS => ?_)
      refine lv_if_ne (tgt := 31) hx hb dX5_round_26 (by decide) (fun c6 => ?_) (fun c6 => ?_)
      · have hw := gq_f c6 hw
        refine lv_iconst (v := 0) hx hb dX5_round_31 (by decide) ?_
        refine lv_istore (lv' := [(5, .int 0), (0, .ref (ad 16)), (1, .int p1), (2, .int p2), (3, .int p3), (4, .int p4)]) hx hb dX5_round_32 hl (by decide) rfl (fun ls hl => ?_)
        have hL34 : ∀ (X65 : Int32 → Prop), (∀ (x7 : Int32) (H : Heap) (locs : List Loc), X65 x7 → va_P D vwCl (wdM ad ck Mp Mv Mb Me Md Mdo Mk Mm Mta Mkn Mti Mrl Mrr Mt Mn Mw Mwl Mws Mf Mpa Mne) H → va_D A (wdM ad ck Mp Mv Mb Me Md Mdo Mk Mm Mta Mkn Mti Mrl Mrr Mt Mn Mw Mwl Mws Mf Mpa Mne) → va_S A s.heap H locs → ∀ ls : Array Slot, lv_has ls 6 [(0, .ref (ad 16)), (1, .int p1), (2, .int p2), (3, .int p3), (4, .int p4), (5, .int x7)] → W p l e { frames := 2, cells := 0, slots := 0, locals := 43 } s m ([.ref (ad 16), .int p1, .int p2, .int p3, .int p4] : List Value).toArray below meth c H locs 0 0 Q (F0 m 65 ls [])) → ∀ (n : Nat) (x7 : Int32) (H : Heap) (locs : List Loc), wl_X5_round_34 p3 p4 Mp Mti Mrl Mrr X65 post n x7 → va_P D vwCl (wdM ad ck Mp Mv Mb Me Md Mdo Mk Mm Mta Mkn Mti Mrl Mrr Mt Mn Mw Mwl Mws Mf Mpa Mne) H → va_D A (wdM ad ck Mp Mv Mb Me Md Mdo Mk Mm Mta Mkn Mti Mrl Mrr Mt Mn Mw Mwl Mws Mf Mpa Mne) → va_S A s.heap H locs → ∀ ls : Array Slot, lv_has ls 6 [(0, .ref (ad 16)), (1, .int p1), (2, .int p2), (3, .int p3), (4, .int p4), (5, .int x7)] → W p l e { frames := 2, cells := 0, slots := 0, locals := 43 } s m ([.ref (ad 16), .int p1, .int p2, .int p3, .int p4] : List Value).toArray below meth c H locs 0 0 Q (F0 m 34 ls []) := by
          intro X65 hX65
          intro n
          induction n with
          | zero =>
            intro x7 H locs hw
            exact hw.elim
          | succ n ih =>
            intro x7 H locs hw hP hD hS ls hl
            refine lv_iload hx hb dX5_round_34 (lv_at hl 5 rfl) ?_
            refine lv_iload_n hx hb dX5_round_36 rfl (lv_at hl 3 rfl) ?_
            refine lv_icmp_ge (tgt := 65) hx hb dX5_round_37 (by decide) (fun c8 => ?_) (fun c8 => ?_)
            · have hw := gq_t c8 hw
              exact hX65 x7 _ _ hw hP hD hS ls (lv_sub hl [0, 1, 2, 3, 4, 5] rfl)
            · have hw := gq_f c8 hw
              refine lv_aload_n hx hb dX5_round_40 rfl (lv_at hl 0 rfl) ?_
              refine lv_iload hx hb dX5_round_41 (lv_at hl 4 rfl) ?_
              refine lv_iconst (v := 4) hx hb dX5_round_43 (by decide) ?_
              refine lv_iload hx hb dX5_round_44 (lv_at hl 5 rfl) ?_
              refine lv_imul hx hb dX5_round_46 ?_
              refine lv_ishr hx hb dX5_round_47 ?_
              refine lv_bipush (v := 15) hx hb dX5_round_48 (by decide) ?_
              refine lv_iand hx hb dX5_round_50 ?_
              refine gq_calli (wsN := fun _ => (wdM ad ck Mp Mv Mb Me Md Mdo Mk Mm Mta Mkn Mti Mrl Mrr Mt Mn Mw Mwl Mws Mf Mpa Mne)) (va_runV (As := [.int ((p4 >>> ((4 * x7) &&& 31)) &&& 15)]) (rest := []) ⟨hx, hb, hml, hown, hts⟩ (c_X5_isPlace l D ad ck H.size Mp Mv Mb Me Md Mdo Mk Mm Mta Mkn Mti Mrl Mrr Mt Mn Mw Mwl Mws Mf Mpa Mne ((p4 >>> ((4 * x7) &&& 31)) &&& 15) _ hw) (cwV 1 hts gX5_round_X5_isPlace rfl rfl rfl (by decide +kernel) ⟨Nat.le_of_ble_eq_true rfl, Nat.le_of_ble_eq_true rfl⟩) (gq_preV hK [0, 1, 2, 3, 4, 5, 6, 7, 8, 9, 10, 11, 12, 13] rfl hP hD [0, 1, 2, 3, 4, 5, 6, 7, 8, 9, 10, 11, 12, 13, 14] rfl rfl hnw 5 0 rfl rfl) rfl rfl hl.1 rfl (lv_room (Nat.le_of_ble_eq_true rfl)) dX5_round_51 ⟨Nat.zero_le _, Nat.zero_le _⟩) hP hD hS hA [0, 1, 2, 3, 4, 5, 6, 7, 8, 9, 10, 11, 12, 13, 14] [] rfl rfl rfl (by decide) [0, 1, 2, 3, 4, 5, 6, 7, 8, 9, 10, 11, 12, 13, 14] rfl (fun _ => rfl) (fun r9 _ H locs hw hP hD hS => ?_)
              refine lv_if_ne (tgt := 59) hx hb dX5_round_54 (by decide) (fun c10 => ?_) (fun c10 => ?_)
              · have hw := gq_f c10 hw
                obtain ⟨v11, ev11⟩ : ∃ y : Int32, y = x7 + 1 := ⟨_, rfl⟩
                have hw := gq_at1 hw ev11
                refine lv_iinc (v := v11) (lv' := [(5, .int v11), (0, .ref (ad 16)), (1, .int p1), (2, .int p2), (3, .int p3), (4, .int p4)]) hx hb dX5_round_59 hl (k := 5) rfl (by rw [ev11]; rfl) (by decide) rfl (fun ls hl => ?_)
                refine lv_goto (tgt := 34) hx hb dX5_round_62 (by decide) ?_
                exact ih v11 _ _ hw hP hD hS ls (lv_sub hl [1, 2, 3, 4, 5, 0] rfl)
              · have hw := gq_t c10 hw
                refine lv_iconst (v := 0) hx hb dX5_round_57 (by decide) ?_
                exact hz 0 (Mti, Mrl, Mrr) _ _ _ _ dX5_round_58 gq_zb0 hw hP hD hS
        obtain ⟨n, hw⟩ := hw
        refine hL34 _ (fun y12 H locs hw hP hD hS ls hl => ?_) n 0 _ _ hw hP hD hS ls (lv_sub hl [1, 2, 3, 4, 5, 0] rfl)
        refine lv_aload_n hx hb dX5_round_65 rfl (lv_at hl 0 rfl) ?_
        refine va_get (D := D) (ci := 5) (v := .ref (ad 22)) (C := RX5) (T := TX5) (N := 21) hx hb hts iX5_round_X5 hown hK hP 0 rfl rfl 10 (by decide) (hts (.fieldLink RX5 36 "DecoyHouseModel" "times" "[I") (by decide +kernel)) (fun _ h9 => h9) rfl dX5_round_66 ?_
        refine lv_iload_n hx hb dX5_round_69 rfl (lv_at hl 1 rfl) ?_
        refine lv_iload_n hx hb dX5_round_70 rfl (lv_at hl 2 rfl) ?_
        refine va_iast hx hb hK hP hD hS 6 5 rfl rfl hw.1 dX5_round_71 (fun H locs hP hD hS => ?_)
        obtain ⟨Mti_13, eMti_13⟩ : ∃ y : Nat → Int32, y = upd Mti (p1).toNatClampNeg p2 := ⟨_, rfl⟩
        have hw := gq_at1 hw.2 eMti_13
        have hP : va_P D vwCl (wdM ad ck Mp Mv Mb Me Md Mdo Mk Mm Mta Mkn Mti_13 Mrl Mrr Mt Mn Mw Mwl Mws Mf Mpa Mne) H := by rw [eMti_13]; exact hP
        have hD : va_D A (wdM ad ck Mp Mv Mb Me Md Mdo Mk Mm Mta Mkn Mti_13 Mrl Mrr Mt Mn Mw Mwl Mws Mf Mpa Mne) := by rw [eMti_13]; exact hD
        refine lv_aload_n hx hb dX5_round_72 rfl (lv_at hl 0 rfl) ?_
        refine va_get (D := D) (ci := 5) (v := .ref (ad 23)) (C := RX5) (T := TX5) (N := 21) hx hb hts iX5_round_X5 hown hK hP 0 rfl rfl 11 (by decide) (hts (.fieldLink RX5 39 "DecoyHouseModel" "roundLong" "[I") (by decide +kernel)) (fun _ h9 => h9) rfl dX5_round_73 ?_
        refine lv_iload_n hx hb dX5_round_76 rfl (lv_at hl 1 rfl) ?_
        refine lv_iload_n hx hb dX5_round_77 rfl (lv_at hl 3 rfl) ?_
        refine va_iast hx hb hK hP hD hS 7 6 rfl rfl hw.1 dX5_round_78 (fun H locs hP hD hS => ?_)
        obtain ⟨Mrl_14, eMrl_14⟩ : ∃ y : Nat → Int32, y = upd Mrl (p1).toNatClampNeg p3 := ⟨_, rfl⟩
        have hw := gq_at1 hw.2 eMrl_14
        have hP : va_P D vwCl (wdM ad ck Mp Mv Mb Me Md Mdo Mk Mm Mta Mkn Mti_13 Mrl_14 Mrr Mt Mn Mw Mwl Mws Mf Mpa Mne) H := by rw [eMrl_14]; exact hP
        have hD : va_D A (wdM ad ck Mp Mv Mb Me Md Mdo Mk Mm Mta Mkn Mti_13 Mrl_14 Mrr Mt Mn Mw Mwl Mws Mf Mpa Mne) := by rw [eMrl_14]; exact hD
        refine lv_iconst (v := 0) hx hb dX5_round_79 (by decide) ?_
        refine lv_istore (lv' := [(5, .int 0), (0, .ref (ad 16)), (1, .int p1), (2, .int p2), (3, .int p3), (4, .int p4)]) hx hb dX5_round_80 hl (by decide) rfl (fun ls hl => ?_)
        have hL82 : ∀ (n : Nat) (x15 : Int32) (Mrr_16 : Nat → Int32) (H : Heap) (locs : List Loc), wl_X5_round_82 p1 p3 p4 Mti_13 Mrl_14 post n x15 Mrr_16 → va_P D vwCl (wdM ad ck Mp Mv Mb Me Md Mdo Mk Mm Mta Mkn Mti_13 Mrl_14 Mrr_16 Mt Mn Mw Mwl Mws Mf Mpa Mne) H → va_D A (wdM ad ck Mp Mv Mb Me Md Mdo Mk Mm Mta Mkn Mti_13 Mrl_14 Mrr_16 Mt Mn Mw Mwl Mws Mf Mpa Mne) → va_S A s.heap H locs → ∀ ls : Array Slot, lv_has ls 6 [(0, .ref (ad 16)), (1, .int p1), (2, .int p2), (3, .int p3), (4, .int p4), (5, .int x15)] → W p l e { frames := 2, cells := 0, slots := 0, locals := 43 } s m ([.ref (ad 16), .int p1, .int p2, .int p3, .int p4] : List Value).toArray below meth c H locs 0 0 Q (F0 m 82 ls []) := by
          intro n
          induction n with
          | zero =>
            intro x15 Mrr_16 H locs hw
            exact hw.elim
          | succ n ih =>
            intro x15 Mrr_16 H locs hw hP hD hS ls hl
            refine lv_iload hx hb dX5_round_82 (lv_at hl 5 rfl) ?_
            refine lv_iload_n hx hb dX5_round_84 rfl (lv_at hl 3 rfl) ?_
            refine lv_icmp_ge (tgt := 116) hx hb dX5_round_85 (by decide) (fun c17 => ?_) (fun c17 => ?_)
            · have hw := gq_t c17 hw
              refine lv_iconst (v := 1) hx hb dX5_round_116 (by decide) ?_
              exact hz 1 (Mti_13, Mrl_14, Mrr_16) _ _ _ _ dX5_round_117 gq_zb1 hw hP hD hS
            · have hw := gq_f c17 hw
              refine lv_aload_n hx hb dX5_round_88 rfl (lv_at hl 0 rfl) ?_
              refine va_get (D := D) (ci := 5) (v := .ref (ad 24)) (C := RX5) (T := TX5) (N := 21) hx hb hts iX5_round_X5 hown hK hP 0 rfl rfl 12 (by decide) (hts (.fieldLink RX5 42 "DecoyHouseModel" "roundRow" "[I") (by decide +kernel)) (fun _ h9 => h9) rfl dX5_round_89 ?_
              refine lv_bipush (v := 8) hx hb dX5_round_92 (by decide) ?_
              refine lv_iload_n hx hb dX5_round_94 rfl (lv_at hl 1 rfl) ?_
              refine lv_imul hx hb dX5_round_95 ?_
              refine lv_iload hx hb dX5_round_96 (lv_at hl 5 rfl) ?_
              refine lv_iadd hx hb dX5_round_98 ?_
              refine lv_iload hx hb dX5_round_99 (lv_at hl 4 rfl) ?_
              refine lv_iconst (v := 4) hx hb dX5_round_101 (by decide) ?_
              refine lv_iload hx hb dX5_round_102 (lv_at hl 5 rfl) ?_
              refine lv_imul hx hb dX5_round_104 ?_
              refine lv_ishr hx hb dX5_round_105 ?_
              refine lv_bipush (v := 15) hx hb dX5_round_106 (by decide) ?_
              refine lv_iand hx hb dX5_round_108 ?_
              refine va_iast hx hb hK hP hD hS 8 7 rfl rfl hw.1 dX5_round_109 (fun H locs hP hD hS => ?_)
              obtain ⟨Mrr_18, eMrr_18⟩ : ∃ y : Nat → Int32, y = upd Mrr_16 (((8 * p1) + x15)).toNatClampNeg ((p4 >>> ((4 * x15) &&& 31)) &&& 15) := ⟨_, rfl⟩
              have hw := gq_at1 hw.2 eMrr_18
              have hP : va_P D vwCl (wdM ad ck Mp Mv Mb Me Md Mdo Mk Mm Mta Mkn Mti_13 Mrl_14 Mrr_18 Mt Mn Mw Mwl Mws Mf Mpa Mne) H := by rw [eMrr_18]; exact hP
              have hD : va_D A (wdM ad ck Mp Mv Mb Me Md Mdo Mk Mm Mta Mkn Mti_13 Mrl_14 Mrr_18 Mt Mn Mw Mwl Mws Mf Mpa Mne) := by rw [eMrr_18]; exact hD
              obtain ⟨v19, ev19⟩ : ∃ y : Int32, y = x15 + 1 := ⟨_, rfl⟩
              have hw := gq_at1 hw ev19
              refine lv_iinc (v := v19) (lv' := [(5, .int v19), (0, .ref (ad 16)), (1, .int p1), (2, .int p2), (3, .int p3), (4, .int p4)]) hx hb dX5_round_110 hl (k := 5) rfl (by rw [ev19]; rfl) (by decide) rfl (fun ls hl => ?_)
              refine lv_goto (tgt := 82) hx hb dX5_round_113 (by decide) ?_
              exact ih v19 Mrr_18 _ _ hw hP hD hS ls (lv_sub hl [1, 2, 3, 4, 5, 0] rfl)
        obtain ⟨n, hw⟩ := hw
        exact hL82 n 0 Mrr _ _ hw hP hD hS ls (lv_sub hl [1, 2, 3, 4, 5, 0] rfl)
      · have hw := gq_t c6 hw
        refine lv_iconst (v := 0) hx hb dX5_round_29 (by decide) ?_
        exact hz 0 (Mti, Mrl, Mrr) _ _ _ _ dX5_round_30 gq_zb0 hw hP hD hS

def wl_X5_look_55 (Mdo : Nat → Int32)   (post : Int32 → Prop) : Nat → Int32 → Int32 → Prop
  | 0, _, _ => False
  | n55 + 1, x1, x2 => (if 81 ≤ x2 then post x1 else vp_in x2 81 ∧ (if (Mdo (x2).toNatClampNeg) = 0 then gq_nm (x1 + 0) (fun v5 : Int32 => gq_nm (x2 + 1) (fun v6 : Int32 => wl_X5_look_55 Mdo post n55 v5 v6)) else gq_nm (x1 + 1) (fun v7 : Int32 => gq_nm (x2 + 1) (fun v8 : Int32 => wl_X5_look_55 Mdo post n55 v7 v8))))

def wl_X5_look_93 (Mp : Int32) (Me : Int32) (Mkn : Nat → Int32)   (post : Int32 → Prop) : Nat → Int32 → Int32 → Prop
  | 0, _, _ => False
  | n93 + 1, x9, x10 => (if Mp ≤ x10 then post x9 else wp_X5_isKnown x10 Me Mkn (fun (r12 : Int32) => (if r12 = 0 then gq_nm (x9 ||| 0) (fun v14 : Int32 => gq_nm (x10 + 1) (fun v15 : Int32 => wl_X5_look_93 Mp Me Mkn post n93 v14 v15)) else gq_nm (x9 ||| ((1 : Int32) <<< (x10 &&& 31))) (fun v16 : Int32 => gq_nm (x10 + 1) (fun v17 : Int32 => wl_X5_look_93 Mp Me Mkn post n93 v16 v17)))))

def wp_X5_look (p1 : Int32) (Mp : Int32) (Mv : Int32) (Mb : Int32) (Me : Int32) (Md : Int32) (Mdo : Nat → Int32) (Mkn : Nat → Int32) (Mn : Int32) (post : Int32 → Prop) : Prop :=
  (if p1 = 0 then post Mp else (if p1 = 1 then ∃ k55, wl_X5_look_55 Mdo post k55 0 0 else (if p1 = 2 then post Md else (if p1 = 3 then ∃ k93, wl_X5_look_93 Mp Me Mkn post k93 0 0 else (if p1 = 4 then post Me else (if p1 = 5 then post Mn else (if p1 = 6 then post Mv else (if p1 = 7 then post Mb else post (-1)))))))))

theorem iX5_look_X5 : ∀ w ∈ wsX50, w ∈ wsX5_look := by decide +kernel
set_option maxHeartbeats 4000000 in
set_option maxRecDepth 100000 in
theorem c_X5_look (l : Launch) (D : va_G) (ad : Nat → Nat) (ck : Nat → ClassId) (sz : Nat) (Mp : Int32) (Mv : Int32) (Mb : Int32) (Me : Int32) (Md : Int32) (Mdo : Nat → Int32) (Mk : Nat → Int32) (Mm : Nat → Int32) (Mta : Nat → Int32) (Mkn : Nat → Int32) (Mti : Nat → Int32) (Mrl : Nat → Int32) (Mrr : Nat → Int32) (Mt : Nat → Int32) (Mn : Int32) (Mw : Nat → Int32) (Mwl : Nat → Int32) (Mws : Nat → Int32) (Mf : Int32) (Mpa : Nat → Int32) (Mne : Nat → Int32) (p1 : Int32) (post : Int32 → Prop) (hw : wp_X5_look p1 Mp Mv Mb Me Md Mdo Mkn Mn post) : Met l yX5_look wsX5_look { frames := 1, cells := 0, slots := 0, locals := 21 } (va_Pc [.ref (ad 16), .int p1] (gq_pre D (tyM ck) (wdM ad ck Mp Mv Mb Me Md Mdo Mk Mm Mta Mkn Mti Mrl Mrr Mt Mn Mw Mwl Mws Mf Mpa Mne) sz)) (va_Qi (fun (r : Int32) (_ : Unit) => post r ) (gq_at D (va_A (wdM ad ck Mp Mv Mb Me Md Mdo Mk Mm Mta Mkn Mti Mrl Mrr Mt Mn Mw Mwl Mws Mf Mpa Mne) sz) (fun (_ : Unit) => (wdM ad ck Mp Mv Mb Me Md Mdo Mk Mm Mta Mkn Mti Mrl Mrr Mt Mn Mw Mwl Mws Mf Mpa Mne))) (va_A (wdM ad ck Mp Mv Mb Me Md Mdo Mk Mm Mta Mkn Mti Mrl Mrr Mt Mn Mw Mwl Mws Mf Mpa Mne) sz)) 0 0 (va_A (wdM ad ck Mp Mv Mb Me Md Mdo Mk Mm Mta Mkn Mti Mrl Mrr Mt Mn Mw Mwl Mws Mf Mpa Mne) sz) := by
  refine gq_meti (cc := cX5_look) (maxL := 4) (lv := [(0, .ref (ad 16)), (1, .int p1)]) (by decide) rfl (Nat.le_of_ble_eq_true rfl) rfl ?_
  intro p e s m below meth c A Q ls H locs hx hb hml hown hts hnw hA hK hP hD hS hl hz
  refine lv_iconst (v := 0) hx hb dX5_look_0 (by decide) ?_
  refine lv_istore_n (lv' := [(2, .int 0), (0, .ref (ad 16)), (1, .int p1)]) hx hb dX5_look_1 rfl hl (by decide) rfl (fun ls hl => ?_)
  refine lv_iload_n hx hb dX5_look_2 rfl (lv_at hl 2 rfl) ?_
  rcases Decidable.em (p1 = 0) with cs3_0 | cs3_0
  · have hw := gq_t cs3_0 hw
    refine lv_tableIn (off := 45) (tgt := 48) hx hb dX5_look_3 (by rw [cs3_0]; decide) (by rw [cs3_0]; decide) (by rw [cs3_0]; decide) (by decide) ?_
    refine lv_aload_n hx hb dX5_look_48 rfl (lv_at hl 1 rfl) ?_
    refine va_get (D := D) (ci := 5) (v := .int Mp) (C := RX5) (T := TX5) (N := 21) hx hb hts iX5_look_X5 hown hK hP 0 rfl rfl 0 (by decide) (hts (.fieldLink RX5 7 "DecoyHouseModel" "places" "I") (by decide +kernel)) (fun _ h9 => h9) rfl dX5_look_49 ?_
    exact hz Mp () _ _ _ _ dX5_look_52 hw hP hD hS
  · have hw := gq_f cs3_0 hw
    rcases Decidable.em (p1 = 1) with cs3_1 | cs3_1
    · have hw := gq_t cs3_1 hw
      refine lv_tableIn (off := 50) (tgt := 53) hx hb dX5_look_3 (by rw [cs3_1]; decide) (by rw [cs3_1]; decide) (by rw [cs3_1]; decide) (by decide) ?_
      refine lv_iconst (v := 0) hx hb dX5_look_53 (by decide) ?_
      refine lv_istore_n (lv' := [(3, .int 0), (2, .int 0), (0, .ref (ad 16)), (1, .int p1)]) hx hb dX5_look_54 rfl hl (by decide) rfl (fun ls hl => ?_)
      have hL55 : ∀ (n : Nat) (x1 : Int32) (x2 : Int32) (H : Heap) (locs : List Loc), wl_X5_look_55 Mdo post n x1 x2 → va_P D vwCl (wdM ad ck Mp Mv Mb Me Md Mdo Mk Mm Mta Mkn Mti Mrl Mrr Mt Mn Mw Mwl Mws Mf Mpa Mne) H → va_D A (wdM ad ck Mp Mv Mb Me Md Mdo Mk Mm Mta Mkn Mti Mrl Mrr Mt Mn Mw Mwl Mws Mf Mpa Mne) → va_S A s.heap H locs → ∀ ls : Array Slot, lv_has ls 4 [(0, .ref (ad 16)), (1, .int p1), (2, .int x1), (3, .int x2)] → W p l e { frames := 1, cells := 0, slots := 0, locals := 21 } s m ([.ref (ad 16), .int p1] : List Value).toArray below meth c H locs 0 0 Q (F0 m 55 ls []) := by
        intro n
        induction n with
        | zero =>
          intro x1 x2 H locs hw
          exact hw.elim
        | succ n ih =>
          intro x1 x2 H locs hw hP hD hS ls hl
          refine lv_iload_n hx hb dX5_look_55 rfl (lv_at hl 3 rfl) ?_
          refine lv_bipush (v := 81) hx hb dX5_look_56 (by decide) ?_
          refine lv_icmp_ge (tgt := 84) hx hb dX5_look_58 (by decide) (fun c3 => ?_) (fun c3 => ?_)
          · have hw := gq_t c3 hw
            refine lv_iload_n hx hb dX5_look_84 rfl (lv_at hl 2 rfl) ?_
            exact hz x1 () _ _ _ _ dX5_look_85 hw hP hD hS
          · have hw := gq_f c3 hw
            refine lv_iload_n hx hb dX5_look_61 rfl (lv_at hl 2 rfl) ?_
            refine lv_aload_n hx hb dX5_look_62 rfl (lv_at hl 0 rfl) ?_
            refine va_get (D := D) (ci := 5) (v := .ref (ad 17)) (C := RX5) (T := TX5) (N := 21) hx hb hts iX5_look_X5 hown hK hP 0 rfl rfl 5 (by decide) (hts (.fieldLink RX5 19 "DecoyHouseModel" "door" "[Z") (by decide +kernel)) (fun _ h9 => h9) rfl dX5_look_63 ?_
            refine lv_iload_n hx hb dX5_look_66 rfl (lv_at hl 3 rfl) ?_
            refine va_zald hx hb hK hP 1 0 rfl rfl hw.1 dX5_look_67 ?_
            have hw := hw.2
            refine lv_if_eq (tgt := 75) hx hb dX5_look_68 (by decide) (fun c4 => ?_) (fun c4 => ?_)
            · have hw := gq_t c4 hw
              refine lv_iconst (v := 0) hx hb dX5_look_75 (by decide) ?_
              refine lv_iadd hx hb dX5_look_76 ?_
              refine lv_topi (fun v5 ev5 => ?_)
              have hw := gq_at1 hw ev5
              refine lv_istore_n (lv' := [(2, .int v5), (0, .ref (ad 16)), (1, .int p1), (3, .int x2)]) hx hb dX5_look_77 rfl hl (by decide) rfl (fun ls hl => ?_)
              obtain ⟨v6, ev6⟩ : ∃ y : Int32, y = x2 + 1 := ⟨_, rfl⟩
              have hw := gq_at1 hw ev6
              refine lv_iinc (v := v6) (lv' := [(3, .int v6), (2, .int v5), (0, .ref (ad 16)), (1, .int p1)]) hx hb dX5_look_78 hl (k := 3) rfl (by rw [ev6]; rfl) (by decide) rfl (fun ls hl => ?_)
              refine lv_goto (tgt := 55) hx hb dX5_look_81 (by decide) ?_
              exact ih v5 v6 _ _ hw hP hD hS ls (lv_sub hl [2, 3, 1, 0] rfl)
            · have hw := gq_f c4 hw
              refine lv_iconst (v := 1) hx hb dX5_look_71 (by decide) ?_
              refine lv_goto (tgt := 76) hx hb dX5_look_72 (by decide) ?_
              refine lv_iadd hx hb dX5_look_76 ?_
              refine lv_topi (fun v7 ev7 => ?_)
              have hw := gq_at1 hw ev7
              refine lv_istore_n (lv' := [(2, .int v7), (0, .ref (ad 16)), (1, .int p1), (3, .int x2)]) hx hb dX5_look_77 rfl hl (by decide) rfl (fun ls hl => ?_)
              obtain ⟨v8, ev8⟩ : ∃ y : Int32, y = x2 + 1 := ⟨_, rfl⟩
              have hw := gq_at1 hw ev8
              refine lv_iinc (v := v8) (lv' := [(3, .int v8), (2, .int v7), (0, .ref (ad 16)), (1, .int p1)]) hx hb dX5_look_78 hl (k := 3) rfl (by rw [ev8]; rfl) (by decide) rfl (fun ls hl => ?_)
              refine lv_goto (tgt := 55) hx hb dX5_look_81 (by decide) ?_
              exact ih v7 v8 _ _ hw hP hD hS ls (lv_sub hl [2, 3, 1, 0] rfl)
      obtain ⟨n, hw⟩ := hw
      exact hL55 n 0 0 _ _ hw hP hD hS ls (lv_sub hl [2, 3, 1, 0] rfl)
    · have hw := gq_f cs3_1 hw
      rcases Decidable.em (p1 = 2) with cs3_2 | cs3_2
      · have hw := gq_t cs3_2 hw
        refine lv_tableIn (off := 83) (tgt := 86) hx hb dX5_look_3 (by rw [cs3_2]; decide) (by rw [cs3_2]; decide) (by rw [cs3_2]; decide) (by decide) ?_
        refine lv_aload_n hx hb dX5_look_86 rfl (lv_at hl 1 rfl) ?_
        refine va_get (D := D) (ci := 5) (v := .int Md) (C := RX5) (T := TX5) (N := 21) hx hb hts iX5_look_X5 hown hK hP 0 rfl rfl 4 (by decide) (hts (.fieldLink RX5 70 "DecoyHouseModel" "decoys" "I") (by decide +kernel)) (fun _ h9 => h9) rfl dX5_look_87 ?_
        exact hz Md () _ _ _ _ dX5_look_90 hw hP hD hS
      · have hw := gq_f cs3_2 hw
        rcases Decidable.em (p1 = 3) with cs3_3 | cs3_3
        · have hw := gq_t cs3_3 hw
          refine lv_tableIn (off := 88) (tgt := 91) hx hb dX5_look_3 (by rw [cs3_3]; decide) (by rw [cs3_3]; decide) (by rw [cs3_3]; decide) (by decide) ?_
          refine lv_iconst (v := 0) hx hb dX5_look_91 (by decide) ?_
          refine lv_istore_n (lv' := [(3, .int 0), (2, .int 0), (0, .ref (ad 16)), (1, .int p1)]) hx hb dX5_look_92 rfl hl (by decide) rfl (fun ls hl => ?_)
          have hL93 : ∀ (n : Nat) (x9 : Int32) (x10 : Int32) (H : Heap) (locs : List Loc), wl_X5_look_93 Mp Me Mkn post n x9 x10 → va_P D vwCl (wdM ad ck Mp Mv Mb Me Md Mdo Mk Mm Mta Mkn Mti Mrl Mrr Mt Mn Mw Mwl Mws Mf Mpa Mne) H → va_D A (wdM ad ck Mp Mv Mb Me Md Mdo Mk Mm Mta Mkn Mti Mrl Mrr Mt Mn Mw Mwl Mws Mf Mpa Mne) → va_S A s.heap H locs → ∀ ls : Array Slot, lv_has ls 4 [(0, .ref (ad 16)), (1, .int p1), (2, .int x9), (3, .int x10)] → W p l e { frames := 1, cells := 0, slots := 0, locals := 21 } s m ([.ref (ad 16), .int p1] : List Value).toArray below meth c H locs 0 0 Q (F0 m 93 ls []) := by
            intro n
            induction n with
            | zero =>
              intro x9 x10 H locs hw
              exact hw.elim
            | succ n ih =>
              intro x9 x10 H locs hw hP hD hS ls hl
              refine lv_iload_n hx hb dX5_look_93 rfl (lv_at hl 3 rfl) ?_
              refine lv_aload_n hx hb dX5_look_94 rfl (lv_at hl 0 rfl) ?_
              refine va_get (D := D) (ci := 5) (v := .int Mp) (C := RX5) (T := TX5) (N := 21) hx hb hts iX5_look_X5 hown hK hP 0 rfl rfl 0 (by decide) (hts (.fieldLink RX5 7 "DecoyHouseModel" "places" "I") (by decide +kernel)) (fun _ h9 => h9) rfl dX5_look_95 ?_
              refine lv_icmp_ge (tgt := 125) hx hb dX5_look_98 (by decide) (fun c11 => ?_) (fun c11 => ?_)
              · have hw := gq_t c11 hw
                refine lv_iload_n hx hb dX5_look_125 rfl (lv_at hl 2 rfl) ?_
                exact hz x9 () _ _ _ _ dX5_look_126 hw hP hD hS
              · have hw := gq_f c11 hw
                refine lv_iload_n hx hb dX5_look_101 rfl (lv_at hl 2 rfl) ?_
                refine lv_aload_n hx hb dX5_look_102 rfl (lv_at hl 0 rfl) ?_
                refine lv_iload_n hx hb dX5_look_103 rfl (lv_at hl 3 rfl) ?_
                refine gq_calli (wsN := fun _ => (wdM ad ck Mp Mv Mb Me Md Mdo Mk Mm Mta Mkn Mti Mrl Mrr Mt Mn Mw Mwl Mws Mf Mpa Mne)) (va_runV (As := [.int x10]) (rest := [.int x9]) ⟨hx, hb, hml, hown, hts⟩ (c_X5_isKnown l D ad ck H.size Mp Mv Mb Me Md Mdo Mk Mm Mta Mkn Mti Mrl Mrr Mt Mn Mw Mwl Mws Mf Mpa Mne x10 _ hw) (cwV 1 hts gX5_look_X5_isKnown rfl rfl rfl (by decide +kernel) ⟨Nat.le_of_ble_eq_true rfl, Nat.le_of_ble_eq_true rfl⟩) (gq_preV hK [0, 1, 2, 3, 4, 5, 6, 7, 8, 9, 10, 11, 12, 13] rfl hP hD [0, 1, 2, 3, 4, 5, 6, 7, 8, 9, 10, 11, 12, 13, 14] rfl rfl hnw 5 0 rfl rfl) rfl rfl hl.1 rfl (lv_room (Nat.le_of_ble_eq_true rfl)) dX5_look_104 ⟨Nat.zero_le _, Nat.zero_le _⟩) hP hD hS hA [0, 1, 2, 3, 4, 5, 6, 7, 8, 9, 10, 11, 12, 13, 14] [] rfl rfl rfl (by decide) [0, 1, 2, 3, 4, 5, 6, 7, 8, 9, 10, 11, 12, 13, 14] rfl (fun _ => rfl) (fun r12 _ H locs hw hP hD hS => ?_)
                refine lv_if_eq (tgt := 116) hx hb dX5_look_107 (by decide) (fun c13 => ?_) (fun c13 => ?_)
                · have hw := gq_t c13 hw
                  refine lv_iconst (v := 0) hx hb dX5_look_116 (by decide) ?_
                  refine lv_ior hx hb dX5_look_117 ?_
                  refine lv_topi (fun v14 ev14 => ?_)
                  have hw := gq_at1 hw ev14
                  refine lv_istore_n (lv' := [(2, .int v14), (0, .ref (ad 16)), (1, .int p1), (3, .int x10)]) hx hb dX5_look_118 rfl hl (by decide) rfl (fun ls hl => ?_)
                  obtain ⟨v15, ev15⟩ : ∃ y : Int32, y = x10 + 1 := ⟨_, rfl⟩
                  have hw := gq_at1 hw ev15
                  refine lv_iinc (v := v15) (lv' := [(3, .int v15), (2, .int v14), (0, .ref (ad 16)), (1, .int p1)]) hx hb dX5_look_119 hl (k := 3) rfl (by rw [ev15]; rfl) (by decide) rfl (fun ls hl => ?_)
                  refine lv_goto (tgt := 93) hx hb dX5_look_122 (by decide) ?_
                  exact ih v14 v15 _ _ hw hP hD hS ls (lv_sub hl [2, 3, 1, 0] rfl)
                · have hw := gq_f c13 hw
                  refine lv_iconst (v := 1) hx hb dX5_look_110 (by decide) ?_
                  refine lv_iload_n hx hb dX5_look_111 rfl (lv_at hl 3 rfl) ?_
                  refine lv_ishl hx hb dX5_look_112 ?_
                  refine lv_goto (tgt := 117) hx hb dX5_look_113 (by decide) ?_
                  refine lv_ior hx hb dX5_look_117 ?_
                  refine lv_topi (fun v16 ev16 => ?_)
                  have hw := gq_at1 hw ev16
                  refine lv_istore_n (lv' := [(2, .int v16), (0, .ref (ad 16)), (1, .int p1), (3, .int x10)]) hx hb dX5_look_118 rfl hl (by decide) rfl (fun ls hl => ?_)
                  obtain ⟨v17, ev17⟩ : ∃ y : Int32, y = x10 + 1 := ⟨_, rfl⟩
                  have hw := gq_at1 hw ev17
                  refine lv_iinc (v := v17) (lv' := [(3, .int v17), (2, .int v16), (0, .ref (ad 16)), (1, .int p1)]) hx hb dX5_look_119 hl (k := 3) rfl (by rw [ev17]; rfl) (by decide) rfl (fun ls hl => ?_)
                  refine lv_goto (tgt := 93) hx hb dX5_look_122 (by decide) ?_
                  exact ih v16 v17 _ _ hw hP hD hS ls (lv_sub hl [2, 3, 1, 0] rfl)
          obtain ⟨n, hw⟩ := hw
          exact hL93 n 0 0 _ _ hw hP hD hS ls (lv_sub hl [2, 3, 1, 0] rfl)
        · have hw := gq_f cs3_3 hw
          rcases Decidable.em (p1 = 4) with cs3_4 | cs3_4
          · have hw := gq_t cs3_4 hw
            refine lv_tableIn (off := 124) (tgt := 127) hx hb dX5_look_3 (by rw [cs3_4]; decide) (by rw [cs3_4]; decide) (by rw [cs3_4]; decide) (by decide) ?_
            refine lv_aload_n hx hb dX5_look_127 rfl (lv_at hl 1 rfl) ?_
            refine va_get (D := D) (ci := 5) (v := .int Me) (C := RX5) (T := TX5) (N := 21) hx hb hts iX5_look_X5 hown hK hP 0 rfl rfl 3 (by decide) (hts (.fieldLink RX5 67 "DecoyHouseModel" "day" "I") (by decide +kernel)) (fun _ h9 => h9) rfl dX5_look_128 ?_
            exact hz Me () _ _ _ _ dX5_look_131 hw hP hD hS
          · have hw := gq_f cs3_4 hw
            rcases Decidable.em (p1 = 5) with cs3_5 | cs3_5
            · have hw := gq_t cs3_5 hw
              refine lv_tableIn (off := 129) (tgt := 132) hx hb dX5_look_3 (by rw [cs3_5]; decide) (by rw [cs3_5]; decide) (by rw [cs3_5]; decide) (by decide) ?_
              refine lv_aload_n hx hb dX5_look_132 rfl (lv_at hl 1 rfl) ?_
              refine va_get (D := D) (ci := 5) (v := .int Mn) (C := RX5) (T := TX5) (N := 21) hx hb hts iX5_look_X5 hown hK hP 0 rfl rfl 14 (by decide) (hts (.fieldLink RX5 73 "DecoyHouseModel" "told" "I") (by decide +kernel)) (fun _ h9 => h9) rfl dX5_look_133 ?_
              exact hz Mn () _ _ _ _ dX5_look_136 hw hP hD hS
            · have hw := gq_f cs3_5 hw
              rcases Decidable.em (p1 = 6) with cs3_6 | cs3_6
              · have hw := gq_t cs3_6 hw
                refine lv_tableIn (off := 134) (tgt := 137) hx hb dX5_look_3 (by rw [cs3_6]; decide) (by rw [cs3_6]; decide) (by rw [cs3_6]; decide) (by decide) ?_
                refine lv_aload_n hx hb dX5_look_137 rfl (lv_at hl 1 rfl) ?_
                refine va_get (D := D) (ci := 5) (v := .int Mv) (C := RX5) (T := TX5) (N := 21) hx hb hts iX5_look_X5 hown hK hP 0 rfl rfl 1 (by decide) (hts (.fieldLink RX5 13 "DecoyHouseModel" "visible" "I") (by decide +kernel)) (fun _ h9 => h9) rfl dX5_look_138 ?_
                exact hz Mv () _ _ _ _ dX5_look_141 hw hP hD hS
              · have hw := gq_f cs3_6 hw
                rcases Decidable.em (p1 = 7) with cs3_7 | cs3_7
                · have hw := gq_t cs3_7 hw
                  refine lv_tableIn (off := 139) (tgt := 142) hx hb dX5_look_3 (by rw [cs3_7]; decide) (by rw [cs3_7]; decide) (by rw [cs3_7]; decide) (by decide) ?_
                  refine lv_aload_n hx hb dX5_look_142 rfl (lv_at hl 1 rfl) ?_
                  refine va_get (D := D) (ci := 5) (v := .int Mb) (C := RX5) (T := TX5) (N := 21) hx hb hts iX5_look_X5 hown hK hP 0 rfl rfl 2 (by decide) (hts (.fieldLink RX5 16 "DecoyHouseModel" "bears" "I") (by decide +kernel)) (fun _ h9 => h9) rfl dX5_look_143 ?_
                  exact hz Mb () _ _ _ _ dX5_look_146 hw hP hD hS
                · have hw := gq_f cs3_7 hw
                  refine lv_tableOut (tgt := 147) hx hb dX5_look_3 (gq_out 8 (fun k hk => by match k, hk with | 0, _ => exact cs3_0 | 1, _ => exact cs3_1 | 2, _ => exact cs3_2 | 3, _ => exact cs3_3 | 4, _ => exact cs3_4 | 5, _ => exact cs3_5 | 6, _ => exact cs3_6 | 7, _ => exact cs3_7 | k + 8, hk => omega)) (by decide) ?_
                  refine lv_iconst (v := (-1)) hx hb dX5_look_147 (by decide) ?_
                  exact hz (-1) () _ _ _ _ dX5_look_148 hw hP hD hS

