def wl_X5_left_13 (Md : Int32) (Mt : Nat → Int32) (Mn : Int32) (Mw_2 : Nat → Int32) (Mwl_3 : Nat → Int32) (Mws_4 : Nat → Int32) (Mf_5 : Int32) (Mpa_6 : Nat → Int32) (Mne_7 : Nat → Int32)   (post : Int32 → (Nat → Int32) → (Nat → Int32) → (Nat → Int32) → Int32 → (Nat → Int32) → (Nat → Int32) → Prop) : Nat → Int32 → Int32 → Prop
  | 0, _, _ => False
  | n13 + 1, x9, x10 => (if Mf_5 ≤ x10 then post x9 Mw_2 Mwl_3 Mws_4 Mf_5 Mpa_6 Mne_7 else wp_X5_leftTo x10 Md Mt Mn Mw_2 Mwl_3 (fun (r12 : Int32) => (if r12 = (-1) then gq_nm (x9 + 0) (fun v14 : Int32 => gq_nm (x10 + 1) (fun v15 : Int32 => wl_X5_left_13 Md Mt Mn Mw_2 Mwl_3 Mws_4 Mf_5 Mpa_6 Mne_7 post n13 v14 v15)) else gq_nm (x9 + 1) (fun v16 : Int32 => gq_nm (x10 + 1) (fun v17 : Int32 => wl_X5_left_13 Md Mt Mn Mw_2 Mwl_3 Mws_4 Mf_5 Mpa_6 Mne_7 post n13 v16 v17)))))

def wp_X5_left  (Mp : Int32) (Md : Int32) (Mdo : Nat → Int32) (Mk : Nat → Int32) (Mt : Nat → Int32) (Mn : Int32) (Mw : Nat → Int32) (Mwl : Nat → Int32) (Mws : Nat → Int32) (Mf : Int32) (Mpa : Nat → Int32) (Mne : Nat → Int32) (post : Int32 → (Nat → Int32) → (Nat → Int32) → (Nat → Int32) → Int32 → (Nat → Int32) → (Nat → Int32) → Prop) : Prop :=
  wp_X5_finds Mp Mdo Mk Mw Mwl Mws Mf Mpa Mne (fun (r1 : Int32) (Mw_2 : Nat → Int32) (Mwl_3 : Nat → Int32) (Mws_4 : Nat → Int32) (Mf_5 : Int32) (Mpa_6 : Nat → Int32) (Mne_7 : Nat → Int32) => (if r1 = 0 then post (-1) Mw_2 Mwl_3 Mws_4 Mf_5 Mpa_6 Mne_7 else ∃ k13, wl_X5_left_13 Md Mt Mn Mw_2 Mwl_3 Mws_4 Mf_5 Mpa_6 Mne_7 post k13 0 0))

theorem iX5_left_X5 : ∀ w ∈ wsX50, w ∈ wsX5_left := by decide +kernel
set_option maxHeartbeats 4000000 in
set_option maxRecDepth 100000 in
theorem c_X5_left (l : Launch) (D : va_G) (ad : Nat → Nat) (ck : Nat → ClassId) (sz : Nat) (Mp : Int32) (Mv : Int32) (Mb : Int32) (Me : Int32) (Md : Int32) (Mdo : Nat → Int32) (Mk : Nat → Int32) (Mm : Nat → Int32) (Mta : Nat → Int32) (Mkn : Nat → Int32) (Mti : Nat → Int32) (Mrl : Nat → Int32) (Mrr : Nat → Int32) (Mt : Nat → Int32) (Mn : Int32) (Mw : Nat → Int32) (Mwl : Nat → Int32) (Mws : Nat → Int32) (Mf : Int32) (Mpa : Nat → Int32) (Mne : Nat → Int32)  (post : Int32 → (Nat → Int32) → (Nat → Int32) → (Nat → Int32) → Int32 → (Nat → Int32) → (Nat → Int32) → Prop) (hw : wp_X5_left Mp Md Mdo Mk Mt Mn Mw Mwl Mws Mf Mpa Mne post) : Met l yX5_left wsX5_left { frames := 2, cells := 0, slots := 0, locals := 47 } (va_Pc [.ref (ad 16)] (gq_pre D (tyM ck) (wdM ad ck Mp Mv Mb Me Md Mdo Mk Mm Mta Mkn Mti Mrl Mrr Mt Mn Mw Mwl Mws Mf Mpa Mne) sz)) (va_Qi (fun (r : Int32) (u : (Nat → Int32) × (Nat → Int32) × (Nat → Int32) × Int32 × (Nat → Int32) × (Nat → Int32)) => post r u.1 u.2.1 u.2.2.1 u.2.2.2.1 u.2.2.2.2.1 u.2.2.2.2.2) (gq_at D (va_A (wdM ad ck Mp Mv Mb Me Md Mdo Mk Mm Mta Mkn Mti Mrl Mrr Mt Mn Mw Mwl Mws Mf Mpa Mne) sz) (fun (u : (Nat → Int32) × (Nat → Int32) × (Nat → Int32) × Int32 × (Nat → Int32) × (Nat → Int32)) => (wdM ad ck Mp Mv Mb Me Md Mdo Mk Mm Mta Mkn Mti Mrl Mrr Mt Mn u.1 u.2.1 u.2.2.1 u.2.2.2.1 u.2.2.2.2.1 u.2.2.2.2.2))) (va_A (wdM ad ck Mp Mv Mb Me Md Mdo Mk Mm Mta Mkn Mti Mrl Mrr Mt Mn Mw Mwl Mws Mf Mpa Mne) sz)) 0 0 (va_A (wdM ad ck Mp Mv Mb Me Md Mdo Mk Mm Mta Mkn Mti Mrl Mrr Mt Mn Mw Mwl Mws Mf Mpa Mne) sz) := by
  refine gq_meti (cc := cX5_left) (maxL := 3) (lv := [(0, .ref (ad 16))]) (by decide) rfl (Nat.le_of_ble_eq_true rfl) rfl ?_
  intro p e s m below meth c A Q ls H locs hx hb hml hown hts hnw hA hK hP hD hS hl hz
  refine lv_aload_n hx hb dX5_left_0 rfl (lv_at hl 0 rfl) ?_
  refine gq_calli (wsN := fun u => (wdM ad ck Mp Mv Mb Me Md Mdo Mk Mm Mta Mkn Mti Mrl Mrr Mt Mn u.1 u.2.1 u.2.2.1 u.2.2.2.1 u.2.2.2.2.1 u.2.2.2.2.2)) (va_runV (As := []) (rest := []) ⟨hx, hb, hml, hown, hts⟩ (c_X5_finds l D ad ck H.size Mp Mv Mb Me Md Mdo Mk Mm Mta Mkn Mti Mrl Mrr Mt Mn Mw Mwl Mws Mf Mpa Mne  _ hw) (cwV 0 hts gX5_left_X5_finds rfl rfl rfl (by decide +kernel) ⟨Nat.le_of_ble_eq_true rfl, Nat.le_of_ble_eq_true rfl⟩) (gq_preV hK [0, 1, 2, 3, 4, 5, 6, 7, 8, 9, 10, 11, 12, 13] rfl hP hD [0, 1, 2, 3, 4, 5, 6, 7, 8, 9, 10, 11, 12, 13, 14] rfl rfl hnw 5 0 rfl rfl) rfl rfl hl.1 rfl (lv_room (Nat.le_of_ble_eq_true rfl)) dX5_left_1 ⟨Nat.zero_le _, Nat.zero_le _⟩) hP hD hS hA [0, 1, 2, 3, 4, 5, 6, 7, 8, 9, 10, 11, 12, 13, 14] [] rfl rfl rfl (by decide) [0, 1, 2, 3, 4, 5, 6, 7, 8, 9, 10, 11, 12, 13, 14] rfl (fun _ => rfl) (fun r1 u_ H locs hw hP hD hS => ?_)
  obtain ⟨Mw_2, Mwl_3, Mws_4, Mf_5, Mpa_6, Mne_7⟩ := u_
  have hP : va_P D vwCl (wdM ad ck Mp Mv Mb Me Md Mdo Mk Mm Mta Mkn Mti Mrl Mrr Mt Mn Mw_2 Mwl_3 Mws_4 Mf_5 Mpa_6 Mne_7) H := hP
  have hD : va_D A (wdM ad ck Mp Mv Mb Me Md Mdo Mk Mm Mta Mkn Mti Mrl Mrr Mt Mn Mw_2 Mwl_3 Mws_4 Mf_5 Mpa_6 Mne_7) := hD
  refine lv_if_ne (tgt := 9) hx hb dX5_left_4 (by decide) (fun c8 => ?_) (fun c8 => ?_)
  · have hw := gq_f c8 hw
    refine lv_iconst (v := 0) hx hb dX5_left_9 (by decide) ?_
    refine lv_istore_n (lv' := [(1, .int 0), (0, .ref (ad 16))]) hx hb dX5_left_10 rfl hl (by decide) rfl (fun ls hl => ?_)
    refine lv_iconst (v := 0) hx hb dX5_left_11 (by decide) ?_
    refine lv_istore_n (lv' := [(2, .int 0), (1, .int 0), (0, .ref (ad 16))]) hx hb dX5_left_12 rfl hl (by decide) rfl (fun ls hl => ?_)
    have hL13 : ∀ (n : Nat) (x9 : Int32) (x10 : Int32) (H : Heap) (locs : List Loc), wl_X5_left_13 Md Mt Mn Mw_2 Mwl_3 Mws_4 Mf_5 Mpa_6 Mne_7 post n x9 x10 → va_P D vwCl (wdM ad ck Mp Mv Mb Me Md Mdo Mk Mm Mta Mkn Mti Mrl Mrr Mt Mn Mw_2 Mwl_3 Mws_4 Mf_5 Mpa_6 Mne_7) H → va_D A (wdM ad ck Mp Mv Mb Me Md Mdo Mk Mm Mta Mkn Mti Mrl Mrr Mt Mn Mw_2 Mwl_3 Mws_4 Mf_5 Mpa_6 Mne_7) → va_S A s.heap H locs → ∀ ls : Array Slot, lv_has ls 3 [(0, .ref (ad 16)), (1, .int x9), (2, .int x10)] → W p l e { frames := 2, cells := 0, slots := 0, locals := 47 } s m ([.ref (ad 16)] : List Value).toArray below meth c H locs 0 0 Q (F0 m 13 ls []) := by
      intro n
      induction n with
      | zero =>
        intro x9 x10 H locs hw
        exact hw.elim
      | succ n ih =>
        intro x9 x10 H locs hw hP hD hS ls hl
        refine lv_iload_n hx hb dX5_left_13 rfl (lv_at hl 2 rfl) ?_
        refine lv_aload_n hx hb dX5_left_14 rfl (lv_at hl 0 rfl) ?_
        refine va_get (D := D) (ci := 5) (v := .int Mf_5) (C := RX5) (T := TX5) (N := 21) hx hb hts iX5_left_X5 hown hK hP 0 rfl rfl 18 (by decide) (hts (.fieldLink RX5 86 "DecoyHouseModel" "ways" "I") (by decide +kernel)) (fun _ h9 => h9) rfl dX5_left_15 ?_
        refine lv_icmp_ge (tgt := 44) hx hb dX5_left_18 (by decide) (fun c11 => ?_) (fun c11 => ?_)
        · have hw := gq_t c11 hw
          refine lv_iload_n hx hb dX5_left_44 rfl (lv_at hl 1 rfl) ?_
          exact hz x9 (Mw_2, Mwl_3, Mws_4, Mf_5, Mpa_6, Mne_7) _ _ _ _ dX5_left_45 hw hP hD hS
        · have hw := gq_f c11 hw
          refine lv_iload_n hx hb dX5_left_21 rfl (lv_at hl 1 rfl) ?_
          refine lv_aload_n hx hb dX5_left_22 rfl (lv_at hl 0 rfl) ?_
          refine lv_iload_n hx hb dX5_left_23 rfl (lv_at hl 2 rfl) ?_
          refine gq_calli (wsN := fun _ => (wdM ad ck Mp Mv Mb Me Md Mdo Mk Mm Mta Mkn Mti Mrl Mrr Mt Mn Mw_2 Mwl_3 Mws_4 Mf_5 Mpa_6 Mne_7)) (va_runV (As := [.int x10]) (rest := [.int x9]) ⟨hx, hb, hml, hown, hts⟩ (c_X5_leftTo l D ad ck H.size Mp Mv Mb Me Md Mdo Mk Mm Mta Mkn Mti Mrl Mrr Mt Mn Mw_2 Mwl_3 Mws_4 Mf_5 Mpa_6 Mne_7 x10 _ hw) (cwV 1 hts gX5_left_X5_leftTo rfl rfl rfl (by decide +kernel) ⟨Nat.le_of_ble_eq_true rfl, Nat.le_of_ble_eq_true rfl⟩) (gq_preV hK [0, 1, 2, 3, 4, 5, 6, 7, 8, 9, 10, 11, 12, 13] rfl hP hD [0, 1, 2, 3, 4, 5, 6, 7, 8, 9, 10, 11, 12, 13, 14] rfl rfl hnw 5 0 rfl rfl) rfl rfl hl.1 rfl (lv_room (Nat.le_of_ble_eq_true rfl)) dX5_left_24 ⟨Nat.zero_le _, Nat.zero_le _⟩) hP hD hS hA [0, 1, 2, 3, 4, 5, 6, 7, 8, 9, 10, 11, 12, 13, 14] [] rfl rfl rfl (by decide) [0, 1, 2, 3, 4, 5, 6, 7, 8, 9, 10, 11, 12, 13, 14] rfl (fun _ => rfl) (fun r12 _ H locs hw hP hD hS => ?_)
          refine lv_iconst (v := (-1)) hx hb dX5_left_27 (by decide) ?_
          refine lv_icmp_eq (tgt := 35) hx hb dX5_left_28 (by decide) (fun c13 => ?_) (fun c13 => ?_)
          · have hw := gq_t c13 hw
            refine lv_iconst (v := 0) hx hb dX5_left_35 (by decide) ?_
            refine lv_iadd hx hb dX5_left_36 ?_
            refine lv_topi (fun v14 ev14 => ?_)
            have hw := gq_at1 hw ev14
            refine lv_istore_n (lv' := [(1, .int v14), (0, .ref (ad 16)), (2, .int x10)]) hx hb dX5_left_37 rfl hl (by decide) rfl (fun ls hl => ?_)
            obtain ⟨v15, ev15⟩ : ∃ y : Int32, y = x10 + 1 := ⟨_, rfl⟩
            have hw := gq_at1 hw ev15
            refine lv_iinc (v := v15) (lv' := [(2, .int v15), (1, .int v14), (0, .ref (ad 16))]) hx hb dX5_left_38 hl (k := 2) rfl (by rw [ev15]; rfl) (by decide) rfl (fun ls hl => ?_)
            refine lv_goto (tgt := 13) hx hb dX5_left_41 (by decide) ?_
            exact ih v14 v15 _ _ hw hP hD hS ls (lv_sub hl [2, 1, 0] rfl)
          · have hw := gq_f c13 hw
            refine lv_iconst (v := 1) hx hb dX5_left_31 (by decide) ?_
            refine lv_goto (tgt := 36) hx hb dX5_left_32 (by decide) ?_
            refine lv_iadd hx hb dX5_left_36 ?_
            refine lv_topi (fun v16 ev16 => ?_)
            have hw := gq_at1 hw ev16
            refine lv_istore_n (lv' := [(1, .int v16), (0, .ref (ad 16)), (2, .int x10)]) hx hb dX5_left_37 rfl hl (by decide) rfl (fun ls hl => ?_)
            obtain ⟨v17, ev17⟩ : ∃ y : Int32, y = x10 + 1 := ⟨_, rfl⟩
            have hw := gq_at1 hw ev17
            refine lv_iinc (v := v17) (lv' := [(2, .int v17), (1, .int v16), (0, .ref (ad 16))]) hx hb dX5_left_38 hl (k := 2) rfl (by rw [ev17]; rfl) (by decide) rfl (fun ls hl => ?_)
            refine lv_goto (tgt := 13) hx hb dX5_left_41 (by decide) ?_
            exact ih v16 v17 _ _ hw hP hD hS ls (lv_sub hl [2, 1, 0] rfl)
    obtain ⟨n, hw⟩ := hw
    exact hL13 n 0 0 _ _ hw hP hD hS ls (lv_sub hl [2, 1, 0] rfl)
  · have hw := gq_t c8 hw
    refine lv_iconst (v := (-1)) hx hb dX5_left_7 (by decide) ?_
    exact hz (-1) (Mw_2, Mwl_3, Mws_4, Mf_5, Mpa_6, Mne_7) _ _ _ _ dX5_left_8 hw hP hD hS

def wl_X5_leftWay_13 (p1 : Int32) (Md : Int32) (Mt : Nat → Int32) (Mn : Int32) (Mw_2 : Nat → Int32) (Mwl_3 : Nat → Int32) (Mws_4 : Nat → Int32) (Mf_5 : Int32) (Mpa_6 : Nat → Int32) (Mne_7 : Nat → Int32)   (post : Int32 → (Nat → Int32) → (Nat → Int32) → (Nat → Int32) → Int32 → (Nat → Int32) → (Nat → Int32) → Prop) : Nat → Int32 → Int32 → Prop
  | 0, _, _ => False
  | n13 + 1, x9, x10 => (if Mf_5 ≤ x10 then post (-1) Mw_2 Mwl_3 Mws_4 Mf_5 Mpa_6 Mne_7 else wp_X5_leftTo x10 Md Mt Mn Mw_2 Mwl_3 (fun (r12 : Int32) => (if r12 = (-1) then gq_nm (x10 + 1) (fun v17 : Int32 => wl_X5_leftWay_13 p1 Md Mt Mn Mw_2 Mwl_3 Mws_4 Mf_5 Mpa_6 Mne_7 post n13 x9 v17) else (if x9 = p1 then post x10 Mw_2 Mwl_3 Mws_4 Mf_5 Mpa_6 Mne_7 else gq_nm (x9 + 1) (fun v15 : Int32 => gq_nm (x10 + 1) (fun v16 : Int32 => wl_X5_leftWay_13 p1 Md Mt Mn Mw_2 Mwl_3 Mws_4 Mf_5 Mpa_6 Mne_7 post n13 v15 v16))))))

def wp_X5_leftWay (p1 : Int32) (Mp : Int32) (Md : Int32) (Mdo : Nat → Int32) (Mk : Nat → Int32) (Mt : Nat → Int32) (Mn : Int32) (Mw : Nat → Int32) (Mwl : Nat → Int32) (Mws : Nat → Int32) (Mf : Int32) (Mpa : Nat → Int32) (Mne : Nat → Int32) (post : Int32 → (Nat → Int32) → (Nat → Int32) → (Nat → Int32) → Int32 → (Nat → Int32) → (Nat → Int32) → Prop) : Prop :=
  wp_X5_finds Mp Mdo Mk Mw Mwl Mws Mf Mpa Mne (fun (r1 : Int32) (Mw_2 : Nat → Int32) (Mwl_3 : Nat → Int32) (Mws_4 : Nat → Int32) (Mf_5 : Int32) (Mpa_6 : Nat → Int32) (Mne_7 : Nat → Int32) => (if r1 = 0 then post (-1) Mw_2 Mwl_3 Mws_4 Mf_5 Mpa_6 Mne_7 else ∃ k13, wl_X5_leftWay_13 p1 Md Mt Mn Mw_2 Mwl_3 Mws_4 Mf_5 Mpa_6 Mne_7 post k13 0 0))

theorem iX5_leftWay_X5 : ∀ w ∈ wsX50, w ∈ wsX5_leftWay := by decide +kernel
set_option maxHeartbeats 4000000 in
set_option maxRecDepth 100000 in
theorem c_X5_leftWay (l : Launch) (D : va_G) (ad : Nat → Nat) (ck : Nat → ClassId) (sz : Nat) (Mp : Int32) (Mv : Int32) (Mb : Int32) (Me : Int32) (Md : Int32) (Mdo : Nat → Int32) (Mk : Nat → Int32) (Mm : Nat → Int32) (Mta : Nat → Int32) (Mkn : Nat → Int32) (Mti : Nat → Int32) (Mrl : Nat → Int32) (Mrr : Nat → Int32) (Mt : Nat → Int32) (Mn : Int32) (Mw : Nat → Int32) (Mwl : Nat → Int32) (Mws : Nat → Int32) (Mf : Int32) (Mpa : Nat → Int32) (Mne : Nat → Int32) (p1 : Int32) (post : Int32 → (Nat → Int32) → (Nat → Int32) → (Nat → Int32) → Int32 → (Nat → Int32) → (Nat → Int32) → Prop) (hw : wp_X5_leftWay p1 Mp Md Mdo Mk Mt Mn Mw Mwl Mws Mf Mpa Mne post) : Met l yX5_leftWay wsX5_leftWay { frames := 2, cells := 0, slots := 0, locals := 47 } (va_Pc [.ref (ad 16), .int p1] (gq_pre D (tyM ck) (wdM ad ck Mp Mv Mb Me Md Mdo Mk Mm Mta Mkn Mti Mrl Mrr Mt Mn Mw Mwl Mws Mf Mpa Mne) sz)) (va_Qi (fun (r : Int32) (u : (Nat → Int32) × (Nat → Int32) × (Nat → Int32) × Int32 × (Nat → Int32) × (Nat → Int32)) => post r u.1 u.2.1 u.2.2.1 u.2.2.2.1 u.2.2.2.2.1 u.2.2.2.2.2) (gq_at D (va_A (wdM ad ck Mp Mv Mb Me Md Mdo Mk Mm Mta Mkn Mti Mrl Mrr Mt Mn Mw Mwl Mws Mf Mpa Mne) sz) (fun (u : (Nat → Int32) × (Nat → Int32) × (Nat → Int32) × Int32 × (Nat → Int32) × (Nat → Int32)) => (wdM ad ck Mp Mv Mb Me Md Mdo Mk Mm Mta Mkn Mti Mrl Mrr Mt Mn u.1 u.2.1 u.2.2.1 u.2.2.2.1 u.2.2.2.2.1 u.2.2.2.2.2))) (va_A (wdM ad ck Mp Mv Mb Me Md Mdo Mk Mm Mta Mkn Mti Mrl Mrr Mt Mn Mw Mwl Mws Mf Mpa Mne) sz)) 0 0 (va_A (wdM ad ck Mp Mv Mb Me Md Mdo Mk Mm Mta Mkn Mti Mrl Mrr Mt Mn Mw Mwl Mws Mf Mpa Mne) sz) := by
  refine gq_meti (cc := cX5_leftWay) (maxL := 4) (lv := [(0, .ref (ad 16)), (1, .int p1)]) (by decide) rfl (Nat.le_of_ble_eq_true rfl) rfl ?_
  intro p e s m below meth c A Q ls H locs hx hb hml hown hts hnw hA hK hP hD hS hl hz
  refine lv_aload_n hx hb dX5_leftWay_0 rfl (lv_at hl 0 rfl) ?_
  refine gq_calli (wsN := fun u => (wdM ad ck Mp Mv Mb Me Md Mdo Mk Mm Mta Mkn Mti Mrl Mrr Mt Mn u.1 u.2.1 u.2.2.1 u.2.2.2.1 u.2.2.2.2.1 u.2.2.2.2.2)) (va_runV (As := []) (rest := []) ⟨hx, hb, hml, hown, hts⟩ (c_X5_finds l D ad ck H.size Mp Mv Mb Me Md Mdo Mk Mm Mta Mkn Mti Mrl Mrr Mt Mn Mw Mwl Mws Mf Mpa Mne  _ hw) (cwV 0 hts gX5_leftWay_X5_finds rfl rfl rfl (by decide +kernel) ⟨Nat.le_of_ble_eq_true rfl, Nat.le_of_ble_eq_true rfl⟩) (gq_preV hK [0, 1, 2, 3, 4, 5, 6, 7, 8, 9, 10, 11, 12, 13] rfl hP hD [0, 1, 2, 3, 4, 5, 6, 7, 8, 9, 10, 11, 12, 13, 14] rfl rfl hnw 5 0 rfl rfl) rfl rfl hl.1 rfl (lv_room (Nat.le_of_ble_eq_true rfl)) dX5_leftWay_1 ⟨Nat.zero_le _, Nat.zero_le _⟩) hP hD hS hA [0, 1, 2, 3, 4, 5, 6, 7, 8, 9, 10, 11, 12, 13, 14] [] rfl rfl rfl (by decide) [0, 1, 2, 3, 4, 5, 6, 7, 8, 9, 10, 11, 12, 13, 14] rfl (fun _ => rfl) (fun r1 u_ H locs hw hP hD hS => ?_)
  obtain ⟨Mw_2, Mwl_3, Mws_4, Mf_5, Mpa_6, Mne_7⟩ := u_
  have hP : va_P D vwCl (wdM ad ck Mp Mv Mb Me Md Mdo Mk Mm Mta Mkn Mti Mrl Mrr Mt Mn Mw_2 Mwl_3 Mws_4 Mf_5 Mpa_6 Mne_7) H := hP
  have hD : va_D A (wdM ad ck Mp Mv Mb Me Md Mdo Mk Mm Mta Mkn Mti Mrl Mrr Mt Mn Mw_2 Mwl_3 Mws_4 Mf_5 Mpa_6 Mne_7) := hD
  refine lv_if_ne (tgt := 9) hx hb dX5_leftWay_4 (by decide) (fun c8 => ?_) (fun c8 => ?_)
  · have hw := gq_f c8 hw
    refine lv_iconst (v := 0) hx hb dX5_leftWay_9 (by decide) ?_
    refine lv_istore_n (lv' := [(2, .int 0), (0, .ref (ad 16)), (1, .int p1)]) hx hb dX5_leftWay_10 rfl hl (by decide) rfl (fun ls hl => ?_)
    refine lv_iconst (v := 0) hx hb dX5_leftWay_11 (by decide) ?_
    refine lv_istore_n (lv' := [(3, .int 0), (2, .int 0), (0, .ref (ad 16)), (1, .int p1)]) hx hb dX5_leftWay_12 rfl hl (by decide) rfl (fun ls hl => ?_)
    have hL13 : ∀ (n : Nat) (x9 : Int32) (x10 : Int32) (H : Heap) (locs : List Loc), wl_X5_leftWay_13 p1 Md Mt Mn Mw_2 Mwl_3 Mws_4 Mf_5 Mpa_6 Mne_7 post n x9 x10 → va_P D vwCl (wdM ad ck Mp Mv Mb Me Md Mdo Mk Mm Mta Mkn Mti Mrl Mrr Mt Mn Mw_2 Mwl_3 Mws_4 Mf_5 Mpa_6 Mne_7) H → va_D A (wdM ad ck Mp Mv Mb Me Md Mdo Mk Mm Mta Mkn Mti Mrl Mrr Mt Mn Mw_2 Mwl_3 Mws_4 Mf_5 Mpa_6 Mne_7) → va_S A s.heap H locs → ∀ ls : Array Slot, lv_has ls 4 [(0, .ref (ad 16)), (1, .int p1), (2, .int x9), (3, .int x10)] → W p l e { frames := 2, cells := 0, slots := 0, locals := 47 } s m ([.ref (ad 16), .int p1] : List Value).toArray below meth c H locs 0 0 Q (F0 m 13 ls []) := by
      intro n
      induction n with
      | zero =>
        intro x9 x10 H locs hw
        exact hw.elim
      | succ n ih =>
        intro x9 x10 H locs hw hP hD hS ls hl
        refine lv_iload_n hx hb dX5_leftWay_13 rfl (lv_at hl 3 rfl) ?_
        refine lv_aload_n hx hb dX5_leftWay_14 rfl (lv_at hl 0 rfl) ?_
        refine va_get (D := D) (ci := 5) (v := .int Mf_5) (C := RX5) (T := TX5) (N := 21) hx hb hts iX5_leftWay_X5 hown hK hP 0 rfl rfl 18 (by decide) (hts (.fieldLink RX5 86 "DecoyHouseModel" "ways" "I") (by decide +kernel)) (fun _ h9 => h9) rfl dX5_leftWay_15 ?_
        refine lv_icmp_ge (tgt := 49) hx hb dX5_leftWay_18 (by decide) (fun c11 => ?_) (fun c11 => ?_)
        · have hw := gq_t c11 hw
          refine lv_iconst (v := (-1)) hx hb dX5_leftWay_49 (by decide) ?_
          exact hz (-1) (Mw_2, Mwl_3, Mws_4, Mf_5, Mpa_6, Mne_7) _ _ _ _ dX5_leftWay_50 hw hP hD hS
        · have hw := gq_f c11 hw
          refine lv_aload_n hx hb dX5_leftWay_21 rfl (lv_at hl 0 rfl) ?_
          refine lv_iload_n hx hb dX5_leftWay_22 rfl (lv_at hl 3 rfl) ?_
          refine gq_calli (wsN := fun _ => (wdM ad ck Mp Mv Mb Me Md Mdo Mk Mm Mta Mkn Mti Mrl Mrr Mt Mn Mw_2 Mwl_3 Mws_4 Mf_5 Mpa_6 Mne_7)) (va_runV (As := [.int x10]) (rest := []) ⟨hx, hb, hml, hown, hts⟩ (c_X5_leftTo l D ad ck H.size Mp Mv Mb Me Md Mdo Mk Mm Mta Mkn Mti Mrl Mrr Mt Mn Mw_2 Mwl_3 Mws_4 Mf_5 Mpa_6 Mne_7 x10 _ hw) (cwV 1 hts gX5_leftWay_X5_leftTo rfl rfl rfl (by decide +kernel) ⟨Nat.le_of_ble_eq_true rfl, Nat.le_of_ble_eq_true rfl⟩) (gq_preV hK [0, 1, 2, 3, 4, 5, 6, 7, 8, 9, 10, 11, 12, 13] rfl hP hD [0, 1, 2, 3, 4, 5, 6, 7, 8, 9, 10, 11, 12, 13, 14] rfl rfl hnw 5 0 rfl rfl) rfl rfl hl.1 rfl (lv_room (Nat.le_of_ble_eq_true rfl)) dX5_leftWay_23 ⟨Nat.zero_le _, Nat.zero_le _⟩) hP hD hS hA [0, 1, 2, 3, 4, 5, 6, 7, 8, 9, 10, 11, 12, 13, 14] [] rfl rfl rfl (by decide) [0, 1, 2, 3, 4, 5, 6, 7, 8, 9, 10, 11, 12, 13, 14] rfl (fun _ => rfl) (fun r12 _ H locs hw hP hD hS => ?_)
          refine lv_iconst (v := (-1)) hx hb dX5_leftWay_26 (by decide) ?_
          refine lv_icmp_ne (tgt := 33) hx hb dX5_leftWay_27 (by decide) (fun c13 => ?_) (fun c13 => ?_)
          · have hw := gq_f c13 hw
            refine lv_iload_n hx hb dX5_leftWay_33 rfl (lv_at hl 2 rfl) ?_
            refine lv_iload_n hx hb dX5_leftWay_34 rfl (lv_at hl 1 rfl) ?_
            refine lv_icmp_ne (tgt := 40) hx hb dX5_leftWay_35 (by decide) (fun c14 => ?_) (fun c14 => ?_)
            · have hw := gq_f c14 hw
              obtain ⟨v15, ev15⟩ : ∃ y : Int32, y = x9 + 1 := ⟨_, rfl⟩
              have hw := gq_at1 hw ev15
              refine lv_iinc (v := v15) (lv' := [(2, .int v15), (0, .ref (ad 16)), (1, .int p1), (3, .int x10)]) hx hb dX5_leftWay_40 hl (k := 2) rfl (by rw [ev15]; rfl) (by decide) rfl (fun ls hl => ?_)
              obtain ⟨v16, ev16⟩ : ∃ y : Int32, y = x10 + 1 := ⟨_, rfl⟩
              have hw := gq_at1 hw ev16
              refine lv_iinc (v := v16) (lv' := [(3, .int v16), (2, .int v15), (0, .ref (ad 16)), (1, .int p1)]) hx hb dX5_leftWay_43 hl (k := 3) rfl (by rw [ev16]; rfl) (by decide) rfl (fun ls hl => ?_)
              refine lv_goto (tgt := 13) hx hb dX5_leftWay_46 (by decide) ?_
              exact ih v15 v16 _ _ hw hP hD hS ls (lv_sub hl [2, 3, 1, 0] rfl)
            · have hw := gq_t c14 hw
              refine lv_iload_n hx hb dX5_leftWay_38 rfl (lv_at hl 3 rfl) ?_
              exact hz x10 (Mw_2, Mwl_3, Mws_4, Mf_5, Mpa_6, Mne_7) _ _ _ _ dX5_leftWay_39 hw hP hD hS
          · have hw := gq_t c13 hw
            refine lv_goto (tgt := 43) hx hb dX5_leftWay_30 (by decide) ?_
            obtain ⟨v17, ev17⟩ : ∃ y : Int32, y = x10 + 1 := ⟨_, rfl⟩
            have hw := gq_at1 hw ev17
            refine lv_iinc (v := v17) (lv' := [(3, .int v17), (0, .ref (ad 16)), (1, .int p1), (2, .int x9)]) hx hb dX5_leftWay_43 hl (k := 3) rfl (by rw [ev17]; rfl) (by decide) rfl (fun ls hl => ?_)
            refine lv_goto (tgt := 13) hx hb dX5_leftWay_46 (by decide) ?_
            exact ih x9 v17 _ _ hw hP hD hS ls (lv_sub hl [1, 2, 3, 0] rfl)
    obtain ⟨n, hw⟩ := hw
    exact hL13 n 0 0 _ _ hw hP hD hS ls (lv_sub hl [2, 3, 1, 0] rfl)
  · have hw := gq_t c8 hw
    refine lv_iconst (v := (-1)) hx hb dX5_leftWay_7 (by decide) ?_
    exact hz (-1) (Mw_2, Mwl_3, Mws_4, Mf_5, Mpa_6, Mne_7) _ _ _ _ dX5_leftWay_8 hw hP hD hS

def wl_X5_next_13 (Md : Int32) (Mt : Nat → Int32) (Mn : Int32) (Mw_2 : Nat → Int32) (Mwl_3 : Nat → Int32) (Mws_4 : Nat → Int32) (Mf_5 : Int32) (Mpa_6 : Nat → Int32) (Mne_7 : Nat → Int32)   (post : Int32 → (Nat → Int32) → (Nat → Int32) → (Nat → Int32) → Int32 → (Nat → Int32) → (Nat → Int32) → Prop) : Nat → Int32 → Int32 → Prop
  | 0, _, _ => False
  | n13 + 1, x9, x10 => (if Mf_5 ≤ x10 then post x9 Mw_2 Mwl_3 Mws_4 Mf_5 Mpa_6 Mne_7 else wp_X5_leftTo x10 Md Mt Mn Mw_2 Mwl_3 (fun (r12 : Int32) => (if r12 = (-1) then gq_nm (x10 + 1) (fun v14 : Int32 => wl_X5_next_13 Md Mt Mn Mw_2 Mwl_3 Mws_4 Mf_5 Mpa_6 Mne_7 post n13 x9 v14) else vp_in x10 2000 ∧ (if (Mwl_3 (x10).toNatClampNeg) ≤ r12 then gq_nm (x10 + 1) (fun v16 : Int32 => wl_X5_next_13 Md Mt Mn Mw_2 Mwl_3 Mws_4 Mf_5 Mpa_6 Mne_7 post n13 x9 v16) else vp_in ((6 * x10) + r12) 12000 ∧ gq_nm (x9 ||| ((1 : Int32) <<< ((Mw_2 (((6 * x10) + r12)).toNatClampNeg) &&& 31))) (fun v17 : Int32 => gq_nm (x10 + 1) (fun v18 : Int32 => wl_X5_next_13 Md Mt Mn Mw_2 Mwl_3 Mws_4 Mf_5 Mpa_6 Mne_7 post n13 v17 v18))))))

def wp_X5_next  (Mp : Int32) (Md : Int32) (Mdo : Nat → Int32) (Mk : Nat → Int32) (Mt : Nat → Int32) (Mn : Int32) (Mw : Nat → Int32) (Mwl : Nat → Int32) (Mws : Nat → Int32) (Mf : Int32) (Mpa : Nat → Int32) (Mne : Nat → Int32) (post : Int32 → (Nat → Int32) → (Nat → Int32) → (Nat → Int32) → Int32 → (Nat → Int32) → (Nat → Int32) → Prop) : Prop :=
  wp_X5_finds Mp Mdo Mk Mw Mwl Mws Mf Mpa Mne (fun (r1 : Int32) (Mw_2 : Nat → Int32) (Mwl_3 : Nat → Int32) (Mws_4 : Nat → Int32) (Mf_5 : Int32) (Mpa_6 : Nat → Int32) (Mne_7 : Nat → Int32) => (if r1 = 0 then post (-1) Mw_2 Mwl_3 Mws_4 Mf_5 Mpa_6 Mne_7 else ∃ k13, wl_X5_next_13 Md Mt Mn Mw_2 Mwl_3 Mws_4 Mf_5 Mpa_6 Mne_7 post k13 0 0))

theorem iX5_next_X5 : ∀ w ∈ wsX50, w ∈ wsX5_next := by decide +kernel
set_option maxHeartbeats 4000000 in
set_option maxRecDepth 100000 in
theorem c_X5_next (l : Launch) (D : va_G) (ad : Nat → Nat) (ck : Nat → ClassId) (sz : Nat) (Mp : Int32) (Mv : Int32) (Mb : Int32) (Me : Int32) (Md : Int32) (Mdo : Nat → Int32) (Mk : Nat → Int32) (Mm : Nat → Int32) (Mta : Nat → Int32) (Mkn : Nat → Int32) (Mti : Nat → Int32) (Mrl : Nat → Int32) (Mrr : Nat → Int32) (Mt : Nat → Int32) (Mn : Int32) (Mw : Nat → Int32) (Mwl : Nat → Int32) (Mws : Nat → Int32) (Mf : Int32) (Mpa : Nat → Int32) (Mne : Nat → Int32)  (post : Int32 → (Nat → Int32) → (Nat → Int32) → (Nat → Int32) → Int32 → (Nat → Int32) → (Nat → Int32) → Prop) (hw : wp_X5_next Mp Md Mdo Mk Mt Mn Mw Mwl Mws Mf Mpa Mne post) : Met l yX5_next wsX5_next { frames := 2, cells := 0, slots := 0, locals := 47 } (va_Pc [.ref (ad 16)] (gq_pre D (tyM ck) (wdM ad ck Mp Mv Mb Me Md Mdo Mk Mm Mta Mkn Mti Mrl Mrr Mt Mn Mw Mwl Mws Mf Mpa Mne) sz)) (va_Qi (fun (r : Int32) (u : (Nat → Int32) × (Nat → Int32) × (Nat → Int32) × Int32 × (Nat → Int32) × (Nat → Int32)) => post r u.1 u.2.1 u.2.2.1 u.2.2.2.1 u.2.2.2.2.1 u.2.2.2.2.2) (gq_at D (va_A (wdM ad ck Mp Mv Mb Me Md Mdo Mk Mm Mta Mkn Mti Mrl Mrr Mt Mn Mw Mwl Mws Mf Mpa Mne) sz) (fun (u : (Nat → Int32) × (Nat → Int32) × (Nat → Int32) × Int32 × (Nat → Int32) × (Nat → Int32)) => (wdM ad ck Mp Mv Mb Me Md Mdo Mk Mm Mta Mkn Mti Mrl Mrr Mt Mn u.1 u.2.1 u.2.2.1 u.2.2.2.1 u.2.2.2.2.1 u.2.2.2.2.2))) (va_A (wdM ad ck Mp Mv Mb Me Md Mdo Mk Mm Mta Mkn Mti Mrl Mrr Mt Mn Mw Mwl Mws Mf Mpa Mne) sz)) 0 0 (va_A (wdM ad ck Mp Mv Mb Me Md Mdo Mk Mm Mta Mkn Mti Mrl Mrr Mt Mn Mw Mwl Mws Mf Mpa Mne) sz) := by
  refine gq_meti (cc := cX5_next) (maxL := 4) (lv := [(0, .ref (ad 16))]) (by decide) rfl (Nat.le_of_ble_eq_true rfl) rfl ?_
  intro p e s m below meth c A Q ls H locs hx hb hml hown hts hnw hA hK hP hD hS hl hz
  refine lv_aload_n hx hb dX5_next_0 rfl (lv_at hl 0 rfl) ?_
  refine gq_calli (wsN := fun u => (wdM ad ck Mp Mv Mb Me Md Mdo Mk Mm Mta Mkn Mti Mrl Mrr Mt Mn u.1 u.2.1 u.2.2.1 u.2.2.2.1 u.2.2.2.2.1 u.2.2.2.2.2)) (va_runV (As := []) (rest := []) ⟨hx, hb, hml, hown, hts⟩ (c_X5_finds l D ad ck H.size Mp Mv Mb Me Md Mdo Mk Mm Mta Mkn Mti Mrl Mrr Mt Mn Mw Mwl Mws Mf Mpa Mne  _ hw) (cwV 0 hts gX5_next_X5_finds rfl rfl rfl (by decide +kernel) ⟨Nat.le_of_ble_eq_true rfl, Nat.le_of_ble_eq_true rfl⟩) (gq_preV hK [0, 1, 2, 3, 4, 5, 6, 7, 8, 9, 10, 11, 12, 13] rfl hP hD [0, 1, 2, 3, 4, 5, 6, 7, 8, 9, 10, 11, 12, 13, 14] rfl rfl hnw 5 0 rfl rfl) rfl rfl hl.1 rfl (lv_room (Nat.le_of_ble_eq_true rfl)) dX5_next_1 ⟨Nat.zero_le _, Nat.zero_le _⟩) hP hD hS hA [0, 1, 2, 3, 4, 5, 6, 7, 8, 9, 10, 11, 12, 13, 14] [] rfl rfl rfl (by decide) [0, 1, 2, 3, 4, 5, 6, 7, 8, 9, 10, 11, 12, 13, 14] rfl (fun _ => rfl) (fun r1 u_ H locs hw hP hD hS => ?_)
  obtain ⟨Mw_2, Mwl_3, Mws_4, Mf_5, Mpa_6, Mne_7⟩ := u_
  have hP : va_P D vwCl (wdM ad ck Mp Mv Mb Me Md Mdo Mk Mm Mta Mkn Mti Mrl Mrr Mt Mn Mw_2 Mwl_3 Mws_4 Mf_5 Mpa_6 Mne_7) H := hP
  have hD : va_D A (wdM ad ck Mp Mv Mb Me Md Mdo Mk Mm Mta Mkn Mti Mrl Mrr Mt Mn Mw_2 Mwl_3 Mws_4 Mf_5 Mpa_6 Mne_7) := hD
  refine lv_if_ne (tgt := 9) hx hb dX5_next_4 (by decide) (fun c8 => ?_) (fun c8 => ?_)
  · have hw := gq_f c8 hw
    refine lv_iconst (v := 0) hx hb dX5_next_9 (by decide) ?_
    refine lv_istore_n (lv' := [(1, .int 0), (0, .ref (ad 16))]) hx hb dX5_next_10 rfl hl (by decide) rfl (fun ls hl => ?_)
    refine lv_iconst (v := 0) hx hb dX5_next_11 (by decide) ?_
    refine lv_istore_n (lv' := [(2, .int 0), (1, .int 0), (0, .ref (ad 16))]) hx hb dX5_next_12 rfl hl (by decide) rfl (fun ls hl => ?_)
    have hL13 : ∀ (n : Nat) (x9 : Int32) (x10 : Int32) (H : Heap) (locs : List Loc), wl_X5_next_13 Md Mt Mn Mw_2 Mwl_3 Mws_4 Mf_5 Mpa_6 Mne_7 post n x9 x10 → va_P D vwCl (wdM ad ck Mp Mv Mb Me Md Mdo Mk Mm Mta Mkn Mti Mrl Mrr Mt Mn Mw_2 Mwl_3 Mws_4 Mf_5 Mpa_6 Mne_7) H → va_D A (wdM ad ck Mp Mv Mb Me Md Mdo Mk Mm Mta Mkn Mti Mrl Mrr Mt Mn Mw_2 Mwl_3 Mws_4 Mf_5 Mpa_6 Mne_7) → va_S A s.heap H locs → ∀ ls : Array Slot, lv_has ls 4 [(0, .ref (ad 16)), (1, .int x9), (2, .int x10)] → W p l e { frames := 2, cells := 0, slots := 0, locals := 47 } s m ([.ref (ad 16)] : List Value).toArray below meth c H locs 0 0 Q (F0 m 13 ls []) := by
      intro n
      induction n with
      | zero =>
        intro x9 x10 H locs hw
        exact hw.elim
      | succ n ih =>
        intro x9 x10 H locs hw hP hD hS ls hl
        refine lv_iload_n hx hb dX5_next_13 rfl (lv_at hl 2 rfl) ?_
        refine lv_aload_n hx hb dX5_next_14 rfl (lv_at hl 0 rfl) ?_
        refine va_get (D := D) (ci := 5) (v := .int Mf_5) (C := RX5) (T := TX5) (N := 21) hx hb hts iX5_next_X5 hown hK hP 0 rfl rfl 18 (by decide) (hts (.fieldLink RX5 86 "DecoyHouseModel" "ways" "I") (by decide +kernel)) (fun _ h9 => h9) rfl dX5_next_15 ?_
        refine lv_icmp_ge (tgt := 64) hx hb dX5_next_18 (by decide) (fun c11 => ?_) (fun c11 => ?_)
        · have hw := gq_t c11 hw
          refine lv_iload_n hx hb dX5_next_64 rfl (lv_at hl 1 rfl) ?_
          exact hz x9 (Mw_2, Mwl_3, Mws_4, Mf_5, Mpa_6, Mne_7) _ _ _ _ dX5_next_65 hw hP hD hS
        · have hw := gq_f c11 hw
          refine lv_aload_n hx hb dX5_next_21 rfl (lv_at hl 0 rfl) ?_
          refine lv_iload_n hx hb dX5_next_22 rfl (lv_at hl 2 rfl) ?_
          refine gq_calli (wsN := fun _ => (wdM ad ck Mp Mv Mb Me Md Mdo Mk Mm Mta Mkn Mti Mrl Mrr Mt Mn Mw_2 Mwl_3 Mws_4 Mf_5 Mpa_6 Mne_7)) (va_runV (As := [.int x10]) (rest := []) ⟨hx, hb, hml, hown, hts⟩ (c_X5_leftTo l D ad ck H.size Mp Mv Mb Me Md Mdo Mk Mm Mta Mkn Mti Mrl Mrr Mt Mn Mw_2 Mwl_3 Mws_4 Mf_5 Mpa_6 Mne_7 x10 _ hw) (cwV 1 hts gX5_next_X5_leftTo rfl rfl rfl (by decide +kernel) ⟨Nat.le_of_ble_eq_true rfl, Nat.le_of_ble_eq_true rfl⟩) (gq_preV hK [0, 1, 2, 3, 4, 5, 6, 7, 8, 9, 10, 11, 12, 13] rfl hP hD [0, 1, 2, 3, 4, 5, 6, 7, 8, 9, 10, 11, 12, 13, 14] rfl rfl hnw 5 0 rfl rfl) rfl rfl hl.1 rfl (lv_room (Nat.le_of_ble_eq_true rfl)) dX5_next_23 ⟨Nat.zero_le _, Nat.zero_le _⟩) hP hD hS hA [0, 1, 2, 3, 4, 5, 6, 7, 8, 9, 10, 11, 12, 13, 14] [] rfl rfl rfl (by decide) [0, 1, 2, 3, 4, 5, 6, 7, 8, 9, 10, 11, 12, 13, 14] rfl (fun _ => rfl) (fun r12 _ H locs hw hP hD hS => ?_)
          refine lv_istore_n (lv' := [(3, .int r12), (0, .ref (ad 16)), (1, .int x9), (2, .int x10)]) hx hb dX5_next_26 rfl hl (by decide) rfl (fun ls hl => ?_)
          refine lv_iload_n hx hb dX5_next_27 rfl (lv_at hl 0 rfl) ?_
          refine lv_iconst (v := (-1)) hx hb dX5_next_28 (by decide) ?_
          refine lv_icmp_eq (tgt := 58) hx hb dX5_next_29 (by decide) (fun c13 => ?_) (fun c13 => ?_)
          · have hw := gq_t c13 hw
            obtain ⟨v14, ev14⟩ : ∃ y : Int32, y = x10 + 1 := ⟨_, rfl⟩
            have hw := gq_at1 hw ev14
            refine lv_iinc (v := v14) (lv' := [(2, .int v14), (3, .int r12), (0, .ref (ad 16)), (1, .int x9)]) hx hb dX5_next_58 hl (k := 3) rfl (by rw [ev14]; rfl) (by decide) rfl (fun ls hl => ?_)
            refine lv_goto (tgt := 13) hx hb dX5_next_61 (by decide) ?_
            exact ih x9 v14 _ _ hw hP hD hS ls (lv_sub hl [2, 3, 0] rfl)
          · have hw := gq_f c13 hw
            refine lv_iload_n hx hb dX5_next_32 rfl (lv_at hl 0 rfl) ?_
            refine lv_aload_n hx hb dX5_next_33 rfl (lv_at hl 1 rfl) ?_
            refine va_get (D := D) (ci := 5) (v := .ref (ad 27)) (C := RX5) (T := TX5) (N := 21) hx hb hts iX5_next_X5 hown hK hP 0 rfl rfl 16 (by decide) (hts (.fieldLink RX5 51 "DecoyHouseModel" "wayLong" "[I") (by decide +kernel)) (fun _ h9 => h9) rfl dX5_next_34 ?_
            refine lv_iload_n hx hb dX5_next_37 rfl (lv_at hl 3 rfl) ?_
            refine va_iald hx hb hK hP 11 10 rfl rfl hw.1 dX5_next_38 ?_
            have hw := hw.2
            refine lv_icmp_ge (tgt := 58) hx hb dX5_next_39 (by decide) (fun c15 => ?_) (fun c15 => ?_)
            · have hw := gq_t c15 hw
              obtain ⟨v16, ev16⟩ : ∃ y : Int32, y = x10 + 1 := ⟨_, rfl⟩
              have hw := gq_at1 hw ev16
              refine lv_iinc (v := v16) (lv' := [(2, .int v16), (3, .int r12), (0, .ref (ad 16)), (1, .int x9)]) hx hb dX5_next_58 hl (k := 3) rfl (by rw [ev16]; rfl) (by decide) rfl (fun ls hl => ?_)
              refine lv_goto (tgt := 13) hx hb dX5_next_61 (by decide) ?_
              exact ih x9 v16 _ _ hw hP hD hS ls (lv_sub hl [2, 3, 0] rfl)
            · have hw := gq_f c15 hw
              refine lv_iload_n hx hb dX5_next_42 rfl (lv_at hl 2 rfl) ?_
              refine lv_iconst (v := 1) hx hb dX5_next_43 (by decide) ?_
              refine lv_aload_n hx hb dX5_next_44 rfl (lv_at hl 1 rfl) ?_
              refine va_get (D := D) (ci := 5) (v := .ref (ad 26)) (C := RX5) (T := TX5) (N := 21) hx hb hts iX5_next_X5 hown hK hP 0 rfl rfl 15 (by decide) (hts (.fieldLink RX5 48 "DecoyHouseModel" "way" "[I") (by decide +kernel)) (fun _ h9 => h9) rfl dX5_next_45 ?_
              refine lv_bipush (v := 6) hx hb dX5_next_48 (by decide) ?_
              refine lv_iload_n hx hb dX5_next_50 rfl (lv_at hl 3 rfl) ?_
              refine lv_imul hx hb dX5_next_51 ?_
              refine lv_iload_n hx hb dX5_next_52 rfl (lv_at hl 0 rfl) ?_
              refine lv_iadd hx hb dX5_next_53 ?_
              refine va_iald hx hb hK hP 10 9 rfl rfl hw.1 dX5_next_54 ?_
              have hw := hw.2
              refine lv_ishl hx hb dX5_next_55 ?_
              refine lv_ior hx hb dX5_next_56 ?_
              refine lv_topi (fun v17 ev17 => ?_)
              have hw := gq_at1 hw ev17
              refine lv_istore_n (lv' := [(1, .int v17), (3, .int r12), (0, .ref (ad 16)), (2, .int x10)]) hx hb dX5_next_57 rfl hl (by decide) rfl (fun ls hl => ?_)
              obtain ⟨v18, ev18⟩ : ∃ y : Int32, y = x10 + 1 := ⟨_, rfl⟩
              have hw := gq_at1 hw ev18
              refine lv_iinc (v := v18) (lv' := [(2, .int v18), (1, .int v17), (3, .int r12), (0, .ref (ad 16))]) hx hb dX5_next_58 hl (k := 3) rfl (by rw [ev18]; rfl) (by decide) rfl (fun ls hl => ?_)
              refine lv_goto (tgt := 13) hx hb dX5_next_61 (by decide) ?_
              exact ih v17 v18 _ _ hw hP hD hS ls (lv_sub hl [3, 1, 0] rfl)
    obtain ⟨n, hw⟩ := hw
    exact hL13 n 0 0 _ _ hw hP hD hS ls (lv_sub hl [2, 1, 0] rfl)
  · have hw := gq_t c8 hw
    refine lv_iconst (v := (-1)) hx hb dX5_next_7 (by decide) ?_
    exact hz (-1) (Mw_2, Mwl_3, Mws_4, Mf_5, Mpa_6, Mne_7) _ _ _ _ dX5_next_8 hw hP hD hS

def wl_X5_tell_4 (Mb : Int32) (Me : Int32) (Mt : Nat → Int32) (Mn : Int32)   (post : Int32 → (Nat → Int32) → (Nat → Int32) → Int32 → Prop) : Nat → Int32 → Int32 → (Nat → Int32) → (Nat → Int32) → Prop
  | 0, _, _, _, _ => False
  | n4 + 1, x1, x2, Mta_3, Mkn_4 => (if Mn ≤ x2 then post x1 Mta_3 Mkn_4 0 else vp_in x2 6 ∧ gq_nm (Mt (x2).toNatClampNeg) (fun v6 : Int32 => vp_in v6 9 ∧ vp_in v6 9 ∧ gq_nm (upd Mta_3 (v6).toNatClampNeg ((Mta_3 (v6).toNatClampNeg) + 1)) (fun Mta_7 : Nat → Int32 => vp_in v6 9 ∧ (if Mb ≤ (Mta_7 (v6).toNatClampNeg) then vp_in v6 9 ∧ gq_nm (upd Mta_7 (v6).toNatClampNeg 0) (fun Mta_9 : Nat → Int32 => vp_in v6 9 ∧ gq_nm (upd Mkn_4 (v6).toNatClampNeg (Me + 10)) (fun Mkn_10 : Nat → Int32 => gq_nm (x1 + 1) (fun v11 : Int32 => gq_nm (x2 + 1) (fun v12 : Int32 => wl_X5_tell_4 Mb Me Mt Mn post n4 v11 v12 Mta_9 Mkn_10)))) else gq_nm (x2 + 1) (fun v13 : Int32 => wl_X5_tell_4 Mb Me Mt Mn post n4 x1 v13 Mta_7 Mkn_4)))))

def wp_X5_tell  (Mb : Int32) (Me : Int32) (Mta : Nat → Int32) (Mkn : Nat → Int32) (Mt : Nat → Int32) (Mn : Int32) (post : Int32 → (Nat → Int32) → (Nat → Int32) → Int32 → Prop) : Prop :=
  ∃ k4, wl_X5_tell_4 Mb Me Mt Mn post k4 0 0 Mta Mkn

theorem iX5_tell_X5 : ∀ w ∈ wsX50, w ∈ wsX5_tell := by decide +kernel
set_option maxHeartbeats 4000000 in
set_option maxRecDepth 100000 in
theorem c_X5_tell (l : Launch) (D : va_G) (ad : Nat → Nat) (ck : Nat → ClassId) (sz : Nat) (Mp : Int32) (Mv : Int32) (Mb : Int32) (Me : Int32) (Md : Int32) (Mdo : Nat → Int32) (Mk : Nat → Int32) (Mm : Nat → Int32) (Mta : Nat → Int32) (Mkn : Nat → Int32) (Mti : Nat → Int32) (Mrl : Nat → Int32) (Mrr : Nat → Int32) (Mt : Nat → Int32) (Mn : Int32) (Mw : Nat → Int32) (Mwl : Nat → Int32) (Mws : Nat → Int32) (Mf : Int32) (Mpa : Nat → Int32) (Mne : Nat → Int32)  (post : Int32 → (Nat → Int32) → (Nat → Int32) → Int32 → Prop) (hw : wp_X5_tell Mb Me Mta Mkn Mt Mn post) : Met l yX5_tell wsX5_tell { frames := 0, cells := 0, slots := 0, locals := 0 } (va_Pc [.ref (ad 16)] (gq_pre D (tyM ck) (wdM ad ck Mp Mv Mb Me Md Mdo Mk Mm Mta Mkn Mti Mrl Mrr Mt Mn Mw Mwl Mws Mf Mpa Mne) sz)) (va_Qi (fun (r : Int32) (u : (Nat → Int32) × (Nat → Int32) × Int32) => post r u.1 u.2.1 u.2.2) (gq_at D (va_A (wdM ad ck Mp Mv Mb Me Md Mdo Mk Mm Mta Mkn Mti Mrl Mrr Mt Mn Mw Mwl Mws Mf Mpa Mne) sz) (fun (u : (Nat → Int32) × (Nat → Int32) × Int32) => (wdM ad ck Mp Mv Mb Me Md Mdo Mk Mm u.1 u.2.1 Mti Mrl Mrr Mt u.2.2 Mw Mwl Mws Mf Mpa Mne))) (va_A (wdM ad ck Mp Mv Mb Me Md Mdo Mk Mm Mta Mkn Mti Mrl Mrr Mt Mn Mw Mwl Mws Mf Mpa Mne) sz)) 0 0 (va_A (wdM ad ck Mp Mv Mb Me Md Mdo Mk Mm Mta Mkn Mti Mrl Mrr Mt Mn Mw Mwl Mws Mf Mpa Mne) sz) := by
  refine gq_meti (cc := cX5_tell) (maxL := 4) (lv := [(0, .ref (ad 16))]) (by decide) rfl (Nat.le_of_ble_eq_true rfl) rfl ?_
  intro p e s m below meth c A Q ls H locs hx hb hml hown hts hnw hA hK hP hD hS hl hz
  refine lv_iconst (v := 0) hx hb dX5_tell_0 (by decide) ?_
  refine lv_istore_n (lv' := [(1, .int 0), (0, .ref (ad 16))]) hx hb dX5_tell_1 rfl hl (by decide) rfl (fun ls hl => ?_)
  refine lv_iconst (v := 0) hx hb dX5_tell_2 (by decide) ?_
  refine lv_istore_n (lv' := [(2, .int 0), (1, .int 0), (0, .ref (ad 16))]) hx hb dX5_tell_3 rfl hl (by decide) rfl (fun ls hl => ?_)
  have hL4 : ∀ (n : Nat) (x1 : Int32) (x2 : Int32) (Mta_3 : Nat → Int32) (Mkn_4 : Nat → Int32) (H : Heap) (locs : List Loc), wl_X5_tell_4 Mb Me Mt Mn post n x1 x2 Mta_3 Mkn_4 → va_P D vwCl (wdM ad ck Mp Mv Mb Me Md Mdo Mk Mm Mta_3 Mkn_4 Mti Mrl Mrr Mt Mn Mw Mwl Mws Mf Mpa Mne) H → va_D A (wdM ad ck Mp Mv Mb Me Md Mdo Mk Mm Mta_3 Mkn_4 Mti Mrl Mrr Mt Mn Mw Mwl Mws Mf Mpa Mne) → va_S A s.heap H locs → ∀ ls : Array Slot, lv_has ls 4 [(0, .ref (ad 16)), (1, .int x1), (2, .int x2)] → W p l e { frames := 0, cells := 0, slots := 0, locals := 0 } s m ([.ref (ad 16)] : List Value).toArray below meth c H locs 0 0 Q (F0 m 4 ls []) := by
    intro n
    induction n with
    | zero =>
      intro x1 x2 Mta_3 Mkn_4 H locs hw
      exact hw.elim
    | succ n ih =>
      intro x1 x2 Mta_3 Mkn_4 H locs hw hP hD hS ls hl
      refine lv_iload_n hx hb dX5_tell_4 rfl (lv_at hl 2 rfl) ?_
      refine lv_aload_n hx hb dX5_tell_5 rfl (lv_at hl 0 rfl) ?_
      refine va_get (D := D) (ci := 5) (v := .int Mn) (C := RX5) (T := TX5) (N := 21) hx hb hts iX5_tell_X5 hown hK hP 0 rfl rfl 14 (by decide) (hts (.fieldLink RX5 73 "DecoyHouseModel" "told" "I") (by decide +kernel)) (fun _ h9 => h9) rfl dX5_tell_6 ?_
      refine lv_icmp_ge (tgt := 74) hx hb dX5_tell_9 (by decide) (fun c5 => ?_) (fun c5 => ?_)
      · have hw := gq_t c5 hw
        refine lv_aload_n hx hb dX5_tell_74 rfl (lv_at hl 0 rfl) ?_
        refine lv_iconst (v := 0) hx hb dX5_tell_75 (by decide) ?_
        refine va_put (D := D) (ci := 5) (v := .int 0) (ty := .int) (C := RX5) (T := TX5) (N := 21) hx hb hts iX5_tell_X5 tyX5 tyX5_ok nmX5 hown hK hP hD hS 0 rfl rfl 14 (by decide) (hts (.fieldLink RX5 73 "DecoyHouseModel" "told" "I") (by decide +kernel)) (fun _ h9 => h9) rfl (by decide +kernel) rfl rfl (Nat.le_of_ble_eq_true rfl) dX5_tell_76 (fun H locs hP hD hS => ?_)
        have hP : va_P D vwCl (wdM ad ck Mp Mv Mb Me Md Mdo Mk Mm Mta_3 Mkn_4 Mti Mrl Mrr Mt 0 Mw Mwl Mws Mf Mpa Mne) H := hP
        have hD : va_D A (wdM ad ck Mp Mv Mb Me Md Mdo Mk Mm Mta_3 Mkn_4 Mti Mrl Mrr Mt 0 Mw Mwl Mws Mf Mpa Mne) := hD
        refine lv_iload_n hx hb dX5_tell_79 rfl (lv_at hl 1 rfl) ?_
        exact hz x1 (Mta_3, Mkn_4, 0) _ _ _ _ dX5_tell_80 hw hP hD hS
      · have hw := gq_f c5 hw
        refine lv_aload_n hx hb dX5_tell_12 rfl (lv_at hl 0 rfl) ?_
        refine va_get (D := D) (ci := 5) (v := .ref (ad 25)) (C := RX5) (T := TX5) (N := 21) hx hb hts iX5_tell_X5 hown hK hP 0 rfl rfl 13 (by decide) (hts (.fieldLink RX5 45 "DecoyHouseModel" "tale" "[I") (by decide +kernel)) (fun _ h9 => h9) rfl dX5_tell_13 ?_
        refine lv_iload_n hx hb dX5_tell_16 rfl (lv_at hl 2 rfl) ?_
        refine va_iald hx hb hK hP 9 8 rfl rfl hw.1 dX5_tell_17 ?_
        have hw := hw.2
        refine lv_topi (fun v6 ev6 => ?_)
        have hw := gq_at1 hw ev6
        refine lv_istore_n (lv' := [(3, .int v6), (0, .ref (ad 16)), (1, .int x1), (2, .int x2)]) hx hb dX5_tell_18 rfl hl (by decide) rfl (fun ls hl => ?_)
        refine lv_aload_n hx hb dX5_tell_19 rfl (lv_at hl 1 rfl) ?_
        refine va_get (D := D) (ci := 5) (v := .ref (ad 20)) (C := RX5) (T := TX5) (N := 21) hx hb hts iX5_tell_X5 hown hK hP 0 rfl rfl 8 (by decide) (hts (.fieldLink RX5 30 "DecoyHouseModel" "talesOf" "[I") (by decide +kernel)) (fun _ h9 => h9) rfl dX5_tell_20 ?_
        refine lv_iload_n hx hb dX5_tell_23 rfl (lv_at hl 0 rfl) ?_
        refine lv_dup2_11 hx hb dX5_tell_24 rfl rfl ?_
        refine va_iald hx hb hK hP 4 3 rfl rfl hw.1 dX5_tell_25 ?_
        have hw := hw.2
        refine lv_iconst (v := 1) hx hb dX5_tell_26 (by decide) ?_
        refine lv_iadd hx hb dX5_tell_27 ?_
        refine va_iast hx hb hK hP hD hS 4 3 rfl rfl hw.1 dX5_tell_28 (fun H locs hP hD hS => ?_)
        obtain ⟨Mta_7, eMta_7⟩ : ∃ y : Nat → Int32, y = upd Mta_3 (v6).toNatClampNeg ((Mta_3 (v6).toNatClampNeg) + 1) := ⟨_, rfl⟩
        have hw := gq_at1 hw.2 eMta_7
        have hP : va_P D vwCl (wdM ad ck Mp Mv Mb Me Md Mdo Mk Mm Mta_7 Mkn_4 Mti Mrl Mrr Mt Mn Mw Mwl Mws Mf Mpa Mne) H := by rw [eMta_7]; exact hP
        have hD : va_D A (wdM ad ck Mp Mv Mb Me Md Mdo Mk Mm Mta_7 Mkn_4 Mti Mrl Mrr Mt Mn Mw Mwl Mws Mf Mpa Mne) := by rw [eMta_7]; exact hD
        refine lv_aload_n hx hb dX5_tell_29 rfl (lv_at hl 1 rfl) ?_
        refine va_get (D := D) (ci := 5) (v := .ref (ad 20)) (C := RX5) (T := TX5) (N := 21) hx hb hts iX5_tell_X5 hown hK hP 0 rfl rfl 8 (by decide) (hts (.fieldLink RX5 30 "DecoyHouseModel" "talesOf" "[I") (by decide +kernel)) (fun _ h9 => h9) rfl dX5_tell_30 ?_
        refine lv_iload_n hx hb dX5_tell_33 rfl (lv_at hl 0 rfl) ?_
        refine va_iald hx hb hK hP 4 3 rfl rfl hw.1 dX5_tell_34 ?_
        have hw := hw.2
        refine lv_aload_n hx hb dX5_tell_35 rfl (lv_at hl 1 rfl) ?_
        refine va_get (D := D) (ci := 5) (v := .int Mb) (C := RX5) (T := TX5) (N := 21) hx hb hts iX5_tell_X5 hown hK hP 0 rfl rfl 2 (by decide) (hts (.fieldLink RX5 16 "DecoyHouseModel" "bears" "I") (by decide +kernel)) (fun _ h9 => h9) rfl dX5_tell_36 ?_
        refine lv_icmp_ge (tgt := 45) hx hb dX5_tell_39 (by decide) (fun c8 => ?_) (fun c8 => ?_)
        · have hw := gq_t c8 hw
          refine lv_aload_n hx hb dX5_tell_45 rfl (lv_at hl 1 rfl) ?_
          refine va_get (D := D) (ci := 5) (v := .ref (ad 20)) (C := RX5) (T := TX5) (N := 21) hx hb hts iX5_tell_X5 hown hK hP 0 rfl rfl 8 (by decide) (hts (.fieldLink RX5 30 "DecoyHouseModel" "talesOf" "[I") (by decide +kernel)) (fun _ h9 => h9) rfl dX5_tell_46 ?_
          refine lv_iload_n hx hb dX5_tell_49 rfl (lv_at hl 0 rfl) ?_
          refine lv_iconst (v := 0) hx hb dX5_tell_50 (by decide) ?_
          refine va_iast hx hb hK hP hD hS 4 3 rfl rfl hw.1 dX5_tell_51 (fun H locs hP hD hS => ?_)
          obtain ⟨Mta_9, eMta_9⟩ : ∃ y : Nat → Int32, y = upd Mta_7 (v6).toNatClampNeg 0 := ⟨_, rfl⟩
          have hw := gq_at1 hw.2 eMta_9
          have hP : va_P D vwCl (wdM ad ck Mp Mv Mb Me Md Mdo Mk Mm Mta_9 Mkn_4 Mti Mrl Mrr Mt Mn Mw Mwl Mws Mf Mpa Mne) H := by rw [eMta_9]; exact hP
          have hD : va_D A (wdM ad ck Mp Mv Mb Me Md Mdo Mk Mm Mta_9 Mkn_4 Mti Mrl Mrr Mt Mn Mw Mwl Mws Mf Mpa Mne) := by rw [eMta_9]; exact hD
          refine lv_aload_n hx hb dX5_tell_52 rfl (lv_at hl 1 rfl) ?_
          refine va_get (D := D) (ci := 5) (v := .ref (ad 21)) (C := RX5) (T := TX5) (N := 21) hx hb hts iX5_tell_X5 hown hK hP 0 rfl rfl 9 (by decide) (hts (.fieldLink RX5 33 "DecoyHouseModel" "knownTo" "[I") (by decide +kernel)) (fun _ h9 => h9) rfl dX5_tell_53 ?_
          refine lv_iload_n hx hb dX5_tell_56 rfl (lv_at hl 0 rfl) ?_
          refine lv_aload_n hx hb dX5_tell_57 rfl (lv_at hl 1 rfl) ?_
          refine va_get (D := D) (ci := 5) (v := .int Me) (C := RX5) (T := TX5) (N := 21) hx hb hts iX5_tell_X5 hown hK hP 0 rfl rfl 3 (by decide) (hts (.fieldLink RX5 67 "DecoyHouseModel" "day" "I") (by decide +kernel)) (fun _ h9 => h9) rfl dX5_tell_58 ?_
          refine lv_bipush (v := 10) hx hb dX5_tell_61 (by decide) ?_
          refine lv_iadd hx hb dX5_tell_63 ?_
          refine va_iast hx hb hK hP hD hS 5 4 rfl rfl hw.1 dX5_tell_64 (fun H locs hP hD hS => ?_)
          obtain ⟨Mkn_10, eMkn_10⟩ : ∃ y : Nat → Int32, y = upd Mkn_4 (v6).toNatClampNeg (Me + 10) := ⟨_, rfl⟩
          have hw := gq_at1 hw.2 eMkn_10
          have hP : va_P D vwCl (wdM ad ck Mp Mv Mb Me Md Mdo Mk Mm Mta_9 Mkn_10 Mti Mrl Mrr Mt Mn Mw Mwl Mws Mf Mpa Mne) H := by rw [eMkn_10]; exact hP
          have hD : va_D A (wdM ad ck Mp Mv Mb Me Md Mdo Mk Mm Mta_9 Mkn_10 Mti Mrl Mrr Mt Mn Mw Mwl Mws Mf Mpa Mne) := by rw [eMkn_10]; exact hD
          obtain ⟨v11, ev11⟩ : ∃ y : Int32, y = x1 + 1 := ⟨_, rfl⟩
          have hw := gq_at1 hw ev11
          refine lv_iinc (v := v11) (lv' := [(1, .int v11), (3, .int v6), (0, .ref (ad 16)), (2, .int x2)]) hx hb dX5_tell_65 hl (k := 2) rfl (by rw [ev11]; rfl) (by decide) rfl (fun ls hl => ?_)
          obtain ⟨v12, ev12⟩ : ∃ y : Int32, y = x2 + 1 := ⟨_, rfl⟩
          have hw := gq_at1 hw ev12
          refine lv_iinc (v := v12) (lv' := [(2, .int v12), (1, .int v11), (3, .int v6), (0, .ref (ad 16))]) hx hb dX5_tell_68 hl (k := 3) rfl (by rw [ev12]; rfl) (by decide) rfl (fun ls hl => ?_)
          refine lv_goto (tgt := 4) hx hb dX5_tell_71 (by decide) ?_
          exact ih v11 v12 Mta_9 Mkn_10 _ _ hw hP hD hS ls (lv_sub hl [3, 1, 0] rfl)
        · have hw := gq_f c8 hw
          refine lv_goto (tgt := 68) hx hb dX5_tell_42 (by decide) ?_
          obtain ⟨v13, ev13⟩ : ∃ y : Int32, y = x2 + 1 := ⟨_, rfl⟩
          have hw := gq_at1 hw ev13
          refine lv_iinc (v := v13) (lv' := [(2, .int v13), (3, .int v6), (0, .ref (ad 16)), (1, .int x1)]) hx hb dX5_tell_68 hl (k := 3) rfl (by rw [ev13]; rfl) (by decide) rfl (fun ls hl => ?_)
          refine lv_goto (tgt := 4) hx hb dX5_tell_71 (by decide) ?_
          exact ih x1 v13 Mta_7 Mkn_4 _ _ hw hP hD hS ls (lv_sub hl [2, 3, 0] rfl)
  obtain ⟨n, hw⟩ := hw
  exact hL4 n 0 0 Mta Mkn _ _ hw hP hD hS ls (lv_sub hl [2, 1, 0] rfl)

def wp_X5_bear (p1 : Int32) (Mb : Int32) (post : Int32 → Int32 → Prop) : Prop :=
  wp_X5_isIn p1 1 9 (fun (r1 : Int32) => (if r1 = 0 then post 0 Mb else post 1 p1))

theorem iX5_bear_X5 : ∀ w ∈ wsX50, w ∈ wsX5_bear := by decide +kernel
set_option maxHeartbeats 4000000 in
set_option maxRecDepth 100000 in
theorem c_X5_bear (l : Launch) (D : va_G) (ad : Nat → Nat) (ck : Nat → ClassId) (sz : Nat) (Mp : Int32) (Mv : Int32) (Mb : Int32) (Me : Int32) (Md : Int32) (Mdo : Nat → Int32) (Mk : Nat → Int32) (Mm : Nat → Int32) (Mta : Nat → Int32) (Mkn : Nat → Int32) (Mti : Nat → Int32) (Mrl : Nat → Int32) (Mrr : Nat → Int32) (Mt : Nat → Int32) (Mn : Int32) (Mw : Nat → Int32) (Mwl : Nat → Int32) (Mws : Nat → Int32) (Mf : Int32) (Mpa : Nat → Int32) (Mne : Nat → Int32) (p1 : Int32) (post : Int32 → Int32 → Prop) (hw : wp_X5_bear p1 Mb post) : Met l yX5_bear wsX5_bear { frames := 1, cells := 0, slots := 0, locals := 22 } (va_Pc [.ref (ad 16), .int p1] (gq_pre D (tyM ck) (wdM ad ck Mp Mv Mb Me Md Mdo Mk Mm Mta Mkn Mti Mrl Mrr Mt Mn Mw Mwl Mws Mf Mpa Mne) sz)) (va_Qi (fun (r : Int32) (u : Int32) => post r u) (gq_at D (va_A (wdM ad ck Mp Mv Mb Me Md Mdo Mk Mm Mta Mkn Mti Mrl Mrr Mt Mn Mw Mwl Mws Mf Mpa Mne) sz) (fun (u : Int32) => (wdM ad ck Mp Mv u Me Md Mdo Mk Mm Mta Mkn Mti Mrl Mrr Mt Mn Mw Mwl Mws Mf Mpa Mne))) (va_A (wdM ad ck Mp Mv Mb Me Md Mdo Mk Mm Mta Mkn Mti Mrl Mrr Mt Mn Mw Mwl Mws Mf Mpa Mne) sz)) 0 0 (va_A (wdM ad ck Mp Mv Mb Me Md Mdo Mk Mm Mta Mkn Mti Mrl Mrr Mt Mn Mw Mwl Mws Mf Mpa Mne) sz) := by
  refine gq_metz (cc := cX5_bear) (maxL := 2) (lv := [(0, .ref (ad 16)), (1, .int p1)]) (by decide) rfl (Nat.le_of_ble_eq_true rfl) rfl ?_
  intro p e s m below meth c A Q ls H locs hx hb hml hown hts hnw hA hK hP hD hS hl hz
  refine lv_iload_n hx hb dX5_bear_0 rfl (lv_at hl 1 rfl) ?_
  refine lv_iconst (v := 1) hx hb dX5_bear_1 (by decide) ?_
  refine lv_bipush (v := 9) hx hb dX5_bear_2 (by decide) ?_
  refine gq_calli (wsN := fun _ => (wdM ad ck Mp Mv Mb Me Md Mdo Mk Mm Mta Mkn Mti Mrl Mrr Mt Mn Mw Mwl Mws Mf Mpa Mne)) (va_runS (As := [.int p1, .int 1, .int 9]) (rest := []) ⟨hx, hb, hml, hown, hts⟩ (c_X5_isIn l D H.size p1 1 9 _ hw) (va_cwS 3 hts gX5_bear_X5_isIn rfl rfl rfl (by decide +kernel) ⟨Nat.le_of_ble_eq_true rfl, Nat.le_of_ble_eq_true rfl⟩) (gq_preS hK [] rfl hP hD [] rfl rfl hnw) rfl rfl hl.1 rfl (lv_room (Nat.le_of_ble_eq_true rfl)) dX5_bear_4 ⟨Nat.zero_le _, Nat.zero_le _⟩) hP hD hS hA [] [0, 1, 2, 3, 4, 5, 6, 7, 8, 9, 10, 11, 12, 13, 14] rfl rfl rfl (by decide) [0, 1, 2, 3, 4, 5, 6, 7, 8, 9, 10, 11, 12, 13, 14] rfl (fun _ => rfl) (fun r1 _ H locs hw hP hD hS => ?_)
  refine lv_if_ne (tgt := 12) hx hb dX5_bear_7 (by decide) (fun c2 => ?_) (fun c2 => ?_)
  · have hw := gq_f c2 hw
    refine lv_aload_n hx hb dX5_bear_12 rfl (lv_at hl 0 rfl) ?_
    refine lv_iload_n hx hb dX5_bear_13 rfl (lv_at hl 1 rfl) ?_
    refine va_put (D := D) (ci := 5) (v := .int p1) (ty := .int) (C := RX5) (T := TX5) (N := 21) hx hb hts iX5_bear_X5 tyX5 tyX5_ok nmX5 hown hK hP hD hS 0 rfl rfl 2 (by decide) (hts (.fieldLink RX5 16 "DecoyHouseModel" "bears" "I") (by decide +kernel)) (fun _ h9 => h9) rfl (by decide +kernel) rfl rfl (Nat.le_of_ble_eq_true rfl) dX5_bear_14 (fun H locs hP hD hS => ?_)
    have hP : va_P D vwCl (wdM ad ck Mp Mv p1 Me Md Mdo Mk Mm Mta Mkn Mti Mrl Mrr Mt Mn Mw Mwl Mws Mf Mpa Mne) H := hP
    have hD : va_D A (wdM ad ck Mp Mv p1 Me Md Mdo Mk Mm Mta Mkn Mti Mrl Mrr Mt Mn Mw Mwl Mws Mf Mpa Mne) := hD
    refine lv_iconst (v := 1) hx hb dX5_bear_17 (by decide) ?_
    exact hz 1 p1 _ _ _ _ dX5_bear_18 gq_zb1 hw hP hD hS
  · have hw := gq_t c2 hw
    refine lv_iconst (v := 0) hx hb dX5_bear_10 (by decide) ?_
    exact hz 0 Mb _ _ _ _ dX5_bear_11 gq_zb0 hw hP hD hS

def wp_X5_tales (p1 : Int32) (Mp : Int32) (Mta : Nat → Int32) (post : Int32 → Prop) : Prop :=
  wp_X5_isPlace p1 Mp (fun (r1 : Int32) => (if r1 = 0 then post (-1) else vp_in p1 9 ∧ post (Mta (p1).toNatClampNeg)))

theorem iX5_tales_X5 : ∀ w ∈ wsX50, w ∈ wsX5_tales := by decide +kernel
set_option maxHeartbeats 4000000 in
set_option maxRecDepth 100000 in
theorem c_X5_tales (l : Launch) (D : va_G) (ad : Nat → Nat) (ck : Nat → ClassId) (sz : Nat) (Mp : Int32) (Mv : Int32) (Mb : Int32) (Me : Int32) (Md : Int32) (Mdo : Nat → Int32) (Mk : Nat → Int32) (Mm : Nat → Int32) (Mta : Nat → Int32) (Mkn : Nat → Int32) (Mti : Nat → Int32) (Mrl : Nat → Int32) (Mrr : Nat → Int32) (Mt : Nat → Int32) (Mn : Int32) (Mw : Nat → Int32) (Mwl : Nat → Int32) (Mws : Nat → Int32) (Mf : Int32) (Mpa : Nat → Int32) (Mne : Nat → Int32) (p1 : Int32) (post : Int32 → Prop) (hw : wp_X5_tales p1 Mp Mta post) : Met l yX5_tales wsX5_tales { frames := 2, cells := 0, slots := 0, locals := 43 } (va_Pc [.ref (ad 16), .int p1] (gq_pre D (tyM ck) (wdM ad ck Mp Mv Mb Me Md Mdo Mk Mm Mta Mkn Mti Mrl Mrr Mt Mn Mw Mwl Mws Mf Mpa Mne) sz)) (va_Qi (fun (r : Int32) (_ : Unit) => post r ) (gq_at D (va_A (wdM ad ck Mp Mv Mb Me Md Mdo Mk Mm Mta Mkn Mti Mrl Mrr Mt Mn Mw Mwl Mws Mf Mpa Mne) sz) (fun (_ : Unit) => (wdM ad ck Mp Mv Mb Me Md Mdo Mk Mm Mta Mkn Mti Mrl Mrr Mt Mn Mw Mwl Mws Mf Mpa Mne))) (va_A (wdM ad ck Mp Mv Mb Me Md Mdo Mk Mm Mta Mkn Mti Mrl Mrr Mt Mn Mw Mwl Mws Mf Mpa Mne) sz)) 0 0 (va_A (wdM ad ck Mp Mv Mb Me Md Mdo Mk Mm Mta Mkn Mti Mrl Mrr Mt Mn Mw Mwl Mws Mf Mpa Mne) sz) := by
  refine gq_meti (cc := cX5_tales) (maxL := 2) (lv := [(0, .ref (ad 16)), (1, .int p1)]) (by decide) rfl (Nat.le_of_ble_eq_true rfl) rfl ?_
  intro p e s m below meth c A Q ls H locs hx hb hml hown hts hnw hA hK hP hD hS hl hz
  refine lv_aload_n hx hb dX5_tales_0 rfl (lv_at hl 0 rfl) ?_
  refine lv_iload_n hx hb dX5_tales_1 rfl (lv_at hl 1 rfl) ?_
  refine gq_calli (wsN := fun _ => (wdM ad ck Mp Mv Mb Me Md Mdo Mk Mm Mta Mkn Mti Mrl Mrr Mt Mn Mw Mwl Mws Mf Mpa Mne)) (va_runV (As := [.int p1]) (rest := []) ⟨hx, hb, hml, hown, hts⟩ (c_X5_isPlace l D ad ck H.size Mp Mv Mb Me Md Mdo Mk Mm Mta Mkn Mti Mrl Mrr Mt Mn Mw Mwl Mws Mf Mpa Mne p1 _ hw) (cwV 1 hts gX5_tales_X5_isPlace rfl rfl rfl (by decide +kernel) ⟨Nat.le_of_ble_eq_true rfl, Nat.le_of_ble_eq_true rfl⟩) (gq_preV hK [0, 1, 2, 3, 4, 5, 6, 7, 8, 9, 10, 11, 12, 13] rfl hP hD [0, 1, 2, 3, 4, 5, 6, 7, 8, 9, 10, 11, 12, 13, 14] rfl rfl hnw 5 0 rfl rfl) rfl rfl hl.1 rfl (lv_room (Nat.le_of_ble_eq_true rfl)) dX5_tales_2 ⟨Nat.zero_le _, Nat.zero_le _⟩) hP hD hS hA [0, 1, 2, 3, 4, 5, 6, 7, 8, 9, 10, 11, 12, 13, 14] [] rfl rfl rfl (by decide) [0, 1, 2, 3, 4, 5, 6, 7, 8, 9, 10, 11, 12, 13, 14] rfl (fun _ => rfl) (fun r1 _ H locs hw hP hD hS => ?_)
  refine lv_if_eq (tgt := 17) hx hb dX5_tales_5 (by decide) (fun c2 => ?_) (fun c2 => ?_)
  · have hw := gq_t c2 hw
    refine lv_iconst (v := (-1)) hx hb dX5_tales_17 (by decide) ?_
    exact hz (-1) () _ _ _ _ dX5_tales_18 hw hP hD hS
  · have hw := gq_f c2 hw
    refine lv_aload_n hx hb dX5_tales_8 rfl (lv_at hl 0 rfl) ?_
    refine va_get (D := D) (ci := 5) (v := .ref (ad 20)) (C := RX5) (T := TX5) (N := 21) hx hb hts iX5_tales_X5 hown hK hP 0 rfl rfl 8 (by decide) (hts (.fieldLink RX5 30 "DecoyHouseModel" "talesOf" "[I") (by decide +kernel)) (fun _ h9 => h9) rfl dX5_tales_9 ?_
    refine lv_iload_n hx hb dX5_tales_12 rfl (lv_at hl 1 rfl) ?_
    refine va_iald hx hb hK hP 4 3 rfl rfl hw.1 dX5_tales_13 ?_
    have hw := hw.2
    refine lv_goto (tgt := 18) hx hb dX5_tales_14 (by decide) ?_
    exact hz (Mta (p1).toNatClampNeg) () _ _ _ _ dX5_tales_18 hw hP hD hS

def wp_X5_day  (Me : Int32) (post : Int32 → Int32 → Prop) : Prop :=
  (if Me = 10000 then post (-1) Me else gq_nm (Me + 1) (fun v2 : Int32 => post v2 v2))

theorem iX5_day_X5 : ∀ w ∈ wsX50, w ∈ wsX5_day := by decide +kernel
set_option maxHeartbeats 4000000 in
set_option maxRecDepth 100000 in
theorem c_X5_day (l : Launch) (D : va_G) (ad : Nat → Nat) (ck : Nat → ClassId) (sz : Nat) (Mp : Int32) (Mv : Int32) (Mb : Int32) (Me : Int32) (Md : Int32) (Mdo : Nat → Int32) (Mk : Nat → Int32) (Mm : Nat → Int32) (Mta : Nat → Int32) (Mkn : Nat → Int32) (Mti : Nat → Int32) (Mrl : Nat → Int32) (Mrr : Nat → Int32) (Mt : Nat → Int32) (Mn : Int32) (Mw : Nat → Int32) (Mwl : Nat → Int32) (Mws : Nat → Int32) (Mf : Int32) (Mpa : Nat → Int32) (Mne : Nat → Int32)  (post : Int32 → Int32 → Prop) (hw : wp_X5_day Me post) : Met l yX5_day wsX5_day { frames := 0, cells := 0, slots := 0, locals := 0 } (va_Pc [.ref (ad 16)] (gq_pre D (tyM ck) (wdM ad ck Mp Mv Mb Me Md Mdo Mk Mm Mta Mkn Mti Mrl Mrr Mt Mn Mw Mwl Mws Mf Mpa Mne) sz)) (va_Qi (fun (r : Int32) (u : Int32) => post r u) (gq_at D (va_A (wdM ad ck Mp Mv Mb Me Md Mdo Mk Mm Mta Mkn Mti Mrl Mrr Mt Mn Mw Mwl Mws Mf Mpa Mne) sz) (fun (u : Int32) => (wdM ad ck Mp Mv Mb u Md Mdo Mk Mm Mta Mkn Mti Mrl Mrr Mt Mn Mw Mwl Mws Mf Mpa Mne))) (va_A (wdM ad ck Mp Mv Mb Me Md Mdo Mk Mm Mta Mkn Mti Mrl Mrr Mt Mn Mw Mwl Mws Mf Mpa Mne) sz)) 0 0 (va_A (wdM ad ck Mp Mv Mb Me Md Mdo Mk Mm Mta Mkn Mti Mrl Mrr Mt Mn Mw Mwl Mws Mf Mpa Mne) sz) := by
  refine gq_meti (cc := cX5_day) (maxL := 1) (lv := [(0, .ref (ad 16))]) (by decide) rfl (Nat.le_of_ble_eq_true rfl) rfl ?_
  intro p e s m below meth c A Q ls H locs hx hb hml hown hts hnw hA hK hP hD hS hl hz
  refine lv_aload_n hx hb dX5_day_0 rfl (lv_at hl 0 rfl) ?_
  refine va_get (D := D) (ci := 5) (v := .int Me) (C := RX5) (T := TX5) (N := 21) hx hb hts iX5_day_X5 hown hK hP 0 rfl rfl 3 (by decide) (hts (.fieldLink RX5 67 "DecoyHouseModel" "day" "I") (by decide +kernel)) (fun _ h9 => h9) rfl dX5_day_1 ?_
  refine lv_sipush (v := 10000) hx hb dX5_day_4 (by decide) ?_
  refine lv_icmp_ne (tgt := 12) hx hb dX5_day_7 (by decide) (fun c1 => ?_) (fun c1 => ?_)
  · have hw := gq_f c1 hw
    refine lv_aload_n hx hb dX5_day_12 rfl (lv_at hl 0 rfl) ?_
    refine lv_dup hx hb dX5_day_13 rfl ?_
    refine va_get (D := D) (ci := 5) (v := .int Me) (C := RX5) (T := TX5) (N := 21) hx hb hts iX5_day_X5 hown hK hP 0 rfl rfl 3 (by decide) (hts (.fieldLink RX5 67 "DecoyHouseModel" "day" "I") (by decide +kernel)) (fun _ h9 => h9) rfl dX5_day_14 ?_
    refine lv_iconst (v := 1) hx hb dX5_day_17 (by decide) ?_
    refine lv_iadd hx hb dX5_day_18 ?_
    refine lv_topi (fun v2 ev2 => ?_)
    have hw := gq_at1 hw ev2
    refine va_put (D := D) (ci := 5) (v := .int v2) (ty := .int) (C := RX5) (T := TX5) (N := 21) hx hb hts iX5_day_X5 tyX5 tyX5_ok nmX5 hown hK hP hD hS 0 rfl rfl 3 (by decide) (hts (.fieldLink RX5 67 "DecoyHouseModel" "day" "I") (by decide +kernel)) (fun _ h9 => h9) rfl (by decide +kernel) rfl rfl (Nat.le_of_ble_eq_true rfl) dX5_day_19 (fun H locs hP hD hS => ?_)
    have hP : va_P D vwCl (wdM ad ck Mp Mv Mb v2 Md Mdo Mk Mm Mta Mkn Mti Mrl Mrr Mt Mn Mw Mwl Mws Mf Mpa Mne) H := hP
    have hD : va_D A (wdM ad ck Mp Mv Mb v2 Md Mdo Mk Mm Mta Mkn Mti Mrl Mrr Mt Mn Mw Mwl Mws Mf Mpa Mne) := hD
    refine lv_aload_n hx hb dX5_day_22 rfl (lv_at hl 0 rfl) ?_
    refine va_get (D := D) (ci := 5) (v := .int v2) (C := RX5) (T := TX5) (N := 21) hx hb hts iX5_day_X5 hown hK hP 0 rfl rfl 3 (by decide) (hts (.fieldLink RX5 67 "DecoyHouseModel" "day" "I") (by decide +kernel)) (fun _ h9 => h9) rfl dX5_day_23 ?_
    exact hz v2 v2 _ _ _ _ dX5_day_26 hw hP hD hS
  · have hw := gq_t c1 hw
    refine lv_iconst (v := (-1)) hx hb dX5_day_10 (by decide) ?_
    exact hz (-1) Me _ _ _ _ dX5_day_11 hw hP hD hS

def wl_X5_move_38 (p1 : Int32) (p2 : Int32) (Mp : Int32) (Me : Int32) (Md : Int32) (Mk : Nat → Int32) (Mkn : Nat → Int32) (Mti : Nat → Int32) (Mrl : Nat → Int32) (Mrr : Nat → Int32) (Mws_8 : Nat → Int32) (Mf_9 : Int32)  (X160 : Int32 → Int32 → Int32 → Int32 → Prop) : Nat → Int32 → Int32 → Int32 → Int32 → Prop
  | 0, _, _, _, _ => False
  | n38 + 1, x13, x14, x15, x16 => (if ((1 : Int32) <<< (Mp &&& 31)) ≤ x16 then X160 x13 x14 x15 x16 else wp_X5_bits x16 (fun (r18 : Int32) => wp_X5_bits Md (fun (r19 : Int32) => (if r18 = r19 then wp_X5_isFree x16 Mp Me Mk Mkn (fun (r22 : Int32) => (if r22 = 0 then gq_nm (x16 + 1) (fun v24 : Int32 => wl_X5_move_38 p1 p2 Mp Me Md Mk Mkn Mti Mrl Mrr Mws_8 Mf_9 X160 n38 x13 x14 x15 v24) else wp_X5_honestOf x16 Mti Mrl Mrr (fun (r25 : Int32) => (if r25 ≤ p1 then wp_X5_touchedBy x16 Mws_8 Mf_9 (fun (r27 : Int32) => wp_X5_bits (x16 &&& Md) (fun (r28 : Int32) => (if r27 < p2 then gq_nm (x16 + 1) (fun v30 : Int32 => wl_X5_move_38 p1 p2 Mp Me Md Mk Mkn Mti Mrl Mrr Mws_8 Mf_9 X160 n38 x13 x14 x15 v30) else (if x13 = (-1) then gq_nm (x16 + 1) (fun v32 : Int32 => wl_X5_move_38 p1 p2 Mp Me Md Mk Mkn Mti Mrl Mrr Mws_8 Mf_9 X160 n38 x16 r28 r27 v32) else (if r28 < x14 then gq_nm (x16 + 1) (fun v34 : Int32 => wl_X5_move_38 p1 p2 Mp Me Md Mk Mkn Mti Mrl Mrr Mws_8 Mf_9 X160 n38 x13 x14 x15 v34) else (if r28 = x14 then (if x15 < r27 then gq_nm (x16 + 1) (fun v38 : Int32 => wl_X5_move_38 p1 p2 Mp Me Md Mk Mkn Mti Mrl Mrr Mws_8 Mf_9 X160 n38 x16 r28 r27 v38) else gq_nm (x16 + 1) (fun v39 : Int32 => wl_X5_move_38 p1 p2 Mp Me Md Mk Mkn Mti Mrl Mrr Mws_8 Mf_9 X160 n38 x13 x14 x15 v39)) else gq_nm (x16 + 1) (fun v36 : Int32 => wl_X5_move_38 p1 p2 Mp Me Md Mk Mkn Mti Mrl Mrr Mws_8 Mf_9 X160 n38 x16 r28 r27 v36))))))) else gq_nm (x16 + 1) (fun v40 : Int32 => wl_X5_move_38 p1 p2 Mp Me Md Mk Mkn Mti Mrl Mrr Mws_8 Mf_9 X160 n38 x13 x14 x15 v40))))) else gq_nm (x16 + 1) (fun v21 : Int32 => wl_X5_move_38 p1 p2 Mp Me Md Mk Mkn Mti Mrl Mrr Mws_8 Mf_9 X160 n38 x13 x14 x15 v21)))))

def wp_X5_move (p1 : Int32) (p2 : Int32) (p3 : Int32) (Mp : Int32) (Me : Int32) (Md : Int32) (Mdo : Nat → Int32) (Mk : Nat → Int32) (Mkn : Nat → Int32) (Mti : Nat → Int32) (Mrl : Nat → Int32) (Mrr : Nat → Int32) (Mw : Nat → Int32) (Mwl : Nat → Int32) (Mws : Nat → Int32) (Mf : Int32) (Mpa : Nat → Int32) (Mne : Nat → Int32) (post : Int32 → (Nat → Int32) → (Nat → Int32) → (Nat → Int32) → Int32 → (Nat → Int32) → (Nat → Int32) → Prop) : Prop :=
  (if p1 < 0 then post (-1) Mw Mwl Mws Mf Mpa Mne else (if p2 < 0 then post (-1) Mw Mwl Mws Mf Mpa Mne else wp_X5_isIn p3 0 2 (fun (r3 : Int32) => (if r3 = 0 then post (-1) Mw Mwl Mws Mf Mpa Mne else wp_X5_finds Mp Mdo Mk Mw Mwl Mws Mf Mpa Mne (fun (r5 : Int32) (Mw_6 : Nat → Int32) (Mwl_7 : Nat → Int32) (Mws_8 : Nat → Int32) (Mf_9 : Int32) (Mpa_10 : Nat → Int32) (Mne_11 : Nat → Int32) => (if r5 = 0 then post (-1) Mw_6 Mwl_7 Mws_8 Mf_9 Mpa_10 Mne_11 else ∃ k38, wl_X5_move_38 p1 p2 Mp Me Md Mk Mkn Mti Mrl Mrr Mws_8 Mf_9 (fun (y41 : Int32) (y42 : Int32) (y43 : Int32) (y44 : Int32) => (if y41 = (-1) then post (-1) Mw_6 Mwl_7 Mws_8 Mf_9 Mpa_10 Mne_11 else (if p3 = 0 then post y41 Mw_6 Mwl_7 Mws_8 Mf_9 Mpa_10 Mne_11 else (if p3 = 1 then wp_X5_bits Md (fun (r48 : Int32) => post (r48 - y42) Mw_6 Mwl_7 Mws_8 Mf_9 Mpa_10 Mne_11) else post y43 Mw_6 Mwl_7 Mws_8 Mf_9 Mpa_10 Mne_11)))) k38 (-1) 0 0 0))))))

theorem iX5_move_X5 : ∀ w ∈ wsX50, w ∈ wsX5_move := by decide +kernel
set_option maxHeartbeats 4000000 in
set_option maxRecDepth 100000 in
theorem c_X5_move (l : Launch) (D : va_G) (ad : Nat → Nat) (ck : Nat → ClassId) (sz : Nat) (Mp : Int32) (Mv : Int32) (Mb : Int32) (Me : Int32) (Md : Int32) (Mdo : Nat → Int32) (Mk : Nat → Int32) (Mm : Nat → Int32) (Mta : Nat → Int32) (Mkn : Nat → Int32) (Mti : Nat → Int32) (Mrl : Nat → Int32) (Mrr : Nat → Int32) (Mt : Nat → Int32) (Mn : Int32) (Mw : Nat → Int32) (Mwl : Nat → Int32) (Mws : Nat → Int32) (Mf : Int32) (Mpa : Nat → Int32) (Mne : Nat → Int32) (p1 : Int32) (p2 : Int32) (p3 : Int32) (post : Int32 → (Nat → Int32) → (Nat → Int32) → (Nat → Int32) → Int32 → (Nat → Int32) → (Nat → Int32) → Prop) (hw : wp_X5_move p1 p2 p3 Mp Me Md Mdo Mk Mkn Mti Mrl Mrr Mw Mwl Mws Mf Mpa Mne post) : Met l yX5_move wsX5_move { frames := 2, cells := 0, slots := 0, locals := 47 } (va_Pc [.ref (ad 16), .int p1, .int p2, .int p3] (gq_pre D (tyM ck) (wdM ad ck Mp Mv Mb Me Md Mdo Mk Mm Mta Mkn Mti Mrl Mrr Mt Mn Mw Mwl Mws Mf Mpa Mne) sz)) (va_Qi (fun (r : Int32) (u : (Nat → Int32) × (Nat → Int32) × (Nat → Int32) × Int32 × (Nat → Int32) × (Nat → Int32)) => post r u.1 u.2.1 u.2.2.1 u.2.2.2.1 u.2.2.2.2.1 u.2.2.2.2.2) (gq_at D (va_A (wdM ad ck Mp Mv Mb Me Md Mdo Mk Mm Mta Mkn Mti Mrl Mrr Mt Mn Mw Mwl Mws Mf Mpa Mne) sz) (fun (u : (Nat → Int32) × (Nat → Int32) × (Nat → Int32) × Int32 × (Nat → Int32) × (Nat → Int32)) => (wdM ad ck Mp Mv Mb Me Md Mdo Mk Mm Mta Mkn Mti Mrl Mrr Mt Mn u.1 u.2.1 u.2.2.1 u.2.2.2.1 u.2.2.2.2.1 u.2.2.2.2.2))) (va_A (wdM ad ck Mp Mv Mb Me Md Mdo Mk Mm Mta Mkn Mti Mrl Mrr Mt Mn Mw Mwl Mws Mf Mpa Mne) sz)) 0 0 (va_A (wdM ad ck Mp Mv Mb Me Md Mdo Mk Mm Mta Mkn Mti Mrl Mrr Mt Mn Mw Mwl Mws Mf Mpa Mne) sz) := by
  refine gq_meti (cc := cX5_move) (maxL := 10) (lv := [(0, .ref (ad 16)), (1, .int p1), (2, .int p2), (3, .int p3)]) (by decide) rfl (Nat.le_of_ble_eq_true rfl) rfl ?_
  intro p e s m below meth c A Q ls H locs hx hb hml hown hts hnw hA hK hP hD hS hl hz
  refine lv_iload_n hx hb dX5_move_0 rfl (lv_at hl 1 rfl) ?_
  refine lv_if_lt (tgt := 24) hx hb dX5_move_1 (by decide) (fun c1 => ?_) (fun c1 => ?_)
  · have hw := gq_t c1 hw
    refine lv_iconst (v := (-1)) hx hb dX5_move_24 (by decide) ?_
    exact hz (-1) (Mw, Mwl, Mws, Mf, Mpa, Mne) _ _ _ _ dX5_move_25 hw hP hD hS
  · have hw := gq_f c1 hw
    refine lv_iload_n hx hb dX5_move_4 rfl (lv_at hl 2 rfl) ?_
    refine lv_if_lt (tgt := 24) hx hb dX5_move_5 (by decide) (fun c2 => ?_) (fun c2 => ?_)
    · have hw := gq_t c2 hw
      refine lv_iconst (v := (-1)) hx hb dX5_move_24 (by decide) ?_
      exact hz (-1) (Mw, Mwl, Mws, Mf, Mpa, Mne) _ _ _ _ dX5_move_25 hw hP hD hS
    · have hw := gq_f c2 hw
      refine lv_iload_n hx hb dX5_move_8 rfl (lv_at hl 3 rfl) ?_
      refine lv_iconst (v := 0) hx hb dX5_move_9 (by decide) ?_
      refine lv_iconst (v := 2) hx hb dX5_move_10 (by decide) ?_
      refine gq_calli (wsN := fun _ => (wdM ad ck Mp Mv Mb Me Md Mdo Mk Mm Mta Mkn Mti Mrl Mrr Mt Mn Mw Mwl Mws Mf Mpa Mne)) (va_runS (As := [.int p3, .int 0, .int 2]) (rest := []) ⟨hx, hb, hml, hown, hts⟩ (c_X5_isIn l D H.size p3 0 2 _ hw) (va_cwS 3 hts gX5_move_X5_isIn rfl rfl rfl (by decide +kernel) ⟨Nat.le_of_ble_eq_true rfl, Nat.le_of_ble_eq_true rfl⟩) (gq_preS hK [] rfl hP hD [] rfl rfl hnw) rfl rfl hl.1 rfl (lv_room (Nat.le_of_ble_eq_true rfl)) dX5_move_11 ⟨Nat.zero_le _, Nat.zero_le _⟩) hP hD hS hA [] [0, 1, 2, 3, 4, 5, 6, 7, 8, 9, 10, 11, 12, 13, 14] rfl rfl rfl (by decide) [0, 1, 2, 3, 4, 5, 6, 7, 8, 9, 10, 11, 12, 13, 14] rfl (fun _ => rfl) (fun r3 _ H locs hw hP hD hS => ?_)
      refine lv_if_eq (tgt := 24) hx hb dX5_move_14 (by decide) (fun c4 => ?_) (fun c4 => ?_)
      · have hw := gq_t c4 hw
        refine lv_iconst (v := (-1)) hx hb dX5_move_24 (by decide) ?_
        exact hz (-1) (Mw, Mwl, Mws, Mf, Mpa, Mne) _ _ _ _ dX5_move_25 hw hP hD hS
      · have hw := gq_f c4 hw
        refine lv_aload_n hx hb dX5_move_17 rfl (lv_at hl 0 rfl) ?_
        refine gq_calli (wsN := fun u => (wdM ad ck Mp Mv Mb Me Md Mdo Mk Mm Mta Mkn Mti Mrl Mrr Mt Mn u.1 u.2.1 u.2.2.1 u.2.2.2.1 u.2.2.2.2.1 u.2.2.2.2.2)) (va_runV (As := []) (rest := []) ⟨hx, hb, hml, hown, hts⟩ (c_X5_finds l D ad ck H.size Mp Mv Mb Me Md Mdo Mk Mm Mta Mkn Mti Mrl Mrr Mt Mn Mw Mwl Mws Mf Mpa Mne  _ hw) (cwV 0 hts gX5_move_X5_finds rfl rfl rfl (by decide +kernel) ⟨Nat.le_of_ble_eq_true rfl, Nat.le_of_ble_eq_true rfl⟩) (gq_preV hK [0, 1, 2, 3, 4, 5, 6, 7, 8, 9, 10, 11, 12, 13] rfl hP hD [0, 1, 2, 3, 4, 5, 6, 7, 8, 9, 10, 11, 12, 13, 14] rfl rfl hnw 5 0 rfl rfl) rfl rfl hl.1 rfl (lv_room (Nat.le_of_ble_eq_true rfl)) dX5_move_18 ⟨Nat.zero_le _, Nat.zero_le _⟩) hP hD hS hA [0, 1, 2, 3, 4, 5, 6, 7, 8, 9, 10, 11, 12, 13, 14] [] rfl rfl rfl (by decide) [0, 1, 2, 3, 4, 5, 6, 7, 8, 9, 10, 11, 12, 13, 14] rfl (fun _ => rfl) (fun r5 u_ H locs hw hP hD hS => ?_)
        obtain ⟨Mw_6, Mwl_7, Mws_8, Mf_9, Mpa_10, Mne_11⟩ := u_
        have hP : va_P D vwCl (wdM ad ck Mp Mv Mb Me Md Mdo Mk Mm Mta Mkn Mti Mrl Mrr Mt Mn Mw_6 Mwl_7 Mws_8 Mf_9 Mpa_10 Mne_11) H := hP
        have hD : va_D A (wdM ad ck Mp Mv Mb Me Md Mdo Mk Mm Mta Mkn Mti Mrl Mrr Mt Mn Mw_6 Mwl_7 Mws_8 Mf_9 Mpa_10 Mne_11) := hD
        refine lv_if_ne (tgt := 26) hx hb dX5_move_21 (by decide) (fun c12 => ?_) (fun c12 => ?_)
        · have hw := gq_f c12 hw
          refine lv_iconst (v := (-1)) hx hb dX5_move_26 (by decide) ?_
          refine lv_istore (lv' := [(4, .int (-1)), (0, .ref (ad 16)), (1, .int p1), (2, .int p2), (3, .int p3)]) hx hb dX5_move_27 hl (by decide) rfl (fun ls hl => ?_)
          refine lv_iconst (v := 0) hx hb dX5_move_29 (by decide) ?_
          refine lv_istore (lv' := [(5, .int 0), (4, .int (-1)), (0, .ref (ad 16)), (1, .int p1), (2, .int p2), (3, .int p3)]) hx hb dX5_move_30 hl (by decide) rfl (fun ls hl => ?_)
          refine lv_iconst (v := 0) hx hb dX5_move_32 (by decide) ?_
          refine lv_istore (lv' := [(6, .int 0), (5, .int 0), (4, .int (-1)), (0, .ref (ad 16)), (1, .int p1), (2, .int p2), (3, .int p3)]) hx hb dX5_move_33 hl (by decide) rfl (fun ls hl => ?_)
          refine lv_iconst (v := 0) hx hb dX5_move_35 (by decide) ?_
          refine lv_istore (lv' := [(7, .int 0), (6, .int 0), (5, .int 0), (4, .int (-1)), (0, .ref (ad 16)), (1, .int p1), (2, .int p2), (3, .int p3)]) hx hb dX5_move_36 hl (by decide) rfl (fun ls hl => ?_)
          have hL38 : ∀ (X160 : Int32 → Int32 → Int32 → Int32 → Prop), (∀ (x13 : Int32) (x14 : Int32) (x15 : Int32) (x16 : Int32) (H : Heap) (locs : List Loc), X160 x13 x14 x15 x16 → va_P D vwCl (wdM ad ck Mp Mv Mb Me Md Mdo Mk Mm Mta Mkn Mti Mrl Mrr Mt Mn Mw_6 Mwl_7 Mws_8 Mf_9 Mpa_10 Mne_11) H → va_D A (wdM ad ck Mp Mv Mb Me Md Mdo Mk Mm Mta Mkn Mti Mrl Mrr Mt Mn Mw_6 Mwl_7 Mws_8 Mf_9 Mpa_10 Mne_11) → va_S A s.heap H locs → ∀ ls : Array Slot, lv_has ls 10 [(0, .ref (ad 16)), (1, .int p1), (2, .int p2), (3, .int p3), (4, .int x13), (5, .int x14), (6, .int x15), (7, .int x16)] → W p l e { frames := 2, cells := 0, slots := 0, locals := 47 } s m ([.ref (ad 16), .int p1, .int p2, .int p3] : List Value).toArray below meth c H locs 0 0 Q (F0 m 160 ls [])) → ∀ (n : Nat) (x13 : Int32) (x14 : Int32) (x15 : Int32) (x16 : Int32) (H : Heap) (locs : List Loc), wl_X5_move_38 p1 p2 Mp Me Md Mk Mkn Mti Mrl Mrr Mws_8 Mf_9 X160 n x13 x14 x15 x16 → va_P D vwCl (wdM ad ck Mp Mv Mb Me Md Mdo Mk Mm Mta Mkn Mti Mrl Mrr Mt Mn Mw_6 Mwl_7 Mws_8 Mf_9 Mpa_10 Mne_11) H → va_D A (wdM ad ck Mp Mv Mb Me Md Mdo Mk Mm Mta Mkn Mti Mrl Mrr Mt Mn Mw_6 Mwl_7 Mws_8 Mf_9 Mpa_10 Mne_11) → va_S A s.heap H locs → ∀ ls : Array Slot, lv_has ls 10 [(0, .ref (ad 16)), (1, .int p1), (2, .int p2), (3, .int p3), (4, .int x13), (5, .int x14), (6, .int x15), (7, .int x16)] → W p l e { frames := 2, cells := 0, slots := 0, locals := 47 } s m ([.ref (ad 16), .int p1, .int p2, .int p3] : List Value).toArray below meth c H locs 0 0 Q (F0 m 38 ls []) := by
            intro X160 hX160
            intro n
            induction n with
            | zero =>
              intro x13 x14 x15 x16 H locs hw
              exact hw.elim
            | succ n ih =>
              intro x13 x14 x15 x16 H locs hw hP hD hS ls hl
              refine lv_iload hx hb dX5_move_38 (lv_at hl 7 rfl) ?_
              refine lv_iconst (v := 1) hx hb dX5_move_40 (by decide) ?_
              refine lv_aload_n hx hb dX5_move_41 rfl (lv_at hl 0 rfl) ?_
              refine va_get (D := D) (ci := 5) (v := .int Mp) (C := RX5) (T := TX5) (N := 21) hx hb hts iX5_move_X5 hown hK hP 0 rfl rfl 0 (by decide) (hts (.fieldLink RX5 7 "DecoyHouseModel" "places" "I") (by decide +kernel)) (fun _ h9 => h9) rfl dX5_move_42 ?_
              refine lv_ishl hx hb dX5_move_45 ?_
              refine lv_icmp_ge (tgt := 160) hx hb dX5_move_46 (by decide) (fun c17 => ?_) (fun c17 => ?_)
              · have hw := gq_t c17 hw
                exact hX160 x13 x14 x15 x16 _ _ hw hP hD hS ls (lv_sub hl [0, 1, 2, 3, 4, 5, 6, 7] rfl)
              · have hw := gq_f c17 hw
                refine lv_iload hx hb dX5_move_49 (lv_at hl 7 rfl) ?_
                refine gq_calli (wsN := fun _ => (wdM ad ck Mp Mv Mb Me Md Mdo Mk Mm Mta Mkn Mti Mrl Mrr Mt Mn Mw_6 Mwl_7 Mws_8 Mf_9 Mpa_10 Mne_11)) (va_runS (As := [.int x16]) (rest := []) ⟨hx, hb, hml, hown, hts⟩ (c_X5_bits l D H.size x16 _ hw) (va_cwS 1 hts gX5_move_X5_bits rfl rfl rfl (by decide +kernel) ⟨Nat.le_of_ble_eq_true rfl, Nat.le_of_ble_eq_true rfl⟩) (gq_preS hK [] rfl hP hD [] rfl rfl hnw) rfl rfl hl.1 rfl (lv_room (Nat.le_of_ble_eq_true rfl)) dX5_move_51 ⟨Nat.zero_le _, Nat.zero_le _⟩) hP hD hS hA [] [0, 1, 2, 3, 4, 5, 6, 7, 8, 9, 10, 11, 12, 13, 14] rfl rfl rfl (by decide) [0, 1, 2, 3, 4, 5, 6, 7, 8, 9, 10, 11, 12, 13, 14] rfl (fun _ => rfl) (fun r18 _ H locs hw hP hD hS => ?_)
                refine lv_aload_n hx hb dX5_move_54 rfl (lv_at hl 0 rfl) ?_
                refine va_get (D := D) (ci := 5) (v := .int Md) (C := RX5) (T := TX5) (N := 21) hx hb hts iX5_move_X5 hown hK hP 0 rfl rfl 4 (by decide) (hts (.fieldLink RX5 70 "DecoyHouseModel" "decoys" "I") (by decide +kernel)) (fun _ h9 => h9) rfl dX5_move_55 ?_
                refine gq_calli (wsN := fun _ => (wdM ad ck Mp Mv Mb Me Md Mdo Mk Mm Mta Mkn Mti Mrl Mrr Mt Mn Mw_6 Mwl_7 Mws_8 Mf_9 Mpa_10 Mne_11)) (va_runS (As := [.int Md]) (rest := [.int r18]) ⟨hx, hb, hml, hown, hts⟩ (c_X5_bits l D H.size Md _ hw) (va_cwS 1 hts gX5_move_X5_bits rfl rfl rfl (by decide +kernel) ⟨Nat.le_of_ble_eq_true rfl, Nat.le_of_ble_eq_true rfl⟩) (gq_preS hK [] rfl hP hD [] rfl rfl hnw) rfl rfl hl.1 rfl (lv_room (Nat.le_of_ble_eq_true rfl)) dX5_move_58 ⟨Nat.zero_le _, Nat.zero_le _⟩) hP hD hS hA [] [0, 1, 2, 3, 4, 5, 6, 7, 8, 9, 10, 11, 12, 13, 14] rfl rfl rfl (by decide) [0, 1, 2, 3, 4, 5, 6, 7, 8, 9, 10, 11, 12, 13, 14] rfl (fun _ => rfl) (fun r19 _ H locs hw hP hD hS => ?_)
                refine lv_icmp_ne (tgt := 154) hx hb dX5_move_61 (by decide) (fun c20 => ?_) (fun c20 => ?_)
                · have hw := gq_f c20 hw
                  obtain ⟨v21, ev21⟩ : ∃ y : Int32, y = x16 + 1 := ⟨_, rfl⟩
                  have hw := gq_at1 hw ev21
                  refine lv_iinc (v := v21) (lv' := [(7, .int v21), (0, .ref (ad 16)), (1, .int p1), (2, .int p2), (3, .int p3), (4, .int x13), (5, .int x14), (6, .int x15)]) hx hb dX5_move_154 hl (k := 7) rfl (by rw [ev21]; rfl) (by decide) rfl (fun ls hl => ?_)
                  refine lv_goto (tgt := 38) hx hb dX5_move_157 (by decide) ?_
                  exact ih x13 x14 x15 v21 _ _ hw hP hD hS ls (lv_sub hl [1, 2, 3, 4, 5, 6, 7, 0] rfl)
                · have hw := gq_t c20 hw
                  refine lv_aload_n hx hb dX5_move_64 rfl (lv_at hl 0 rfl) ?_
                  refine lv_iload hx hb dX5_move_65 (lv_at hl 7 rfl) ?_
                  refine gq_calli (wsN := fun _ => (wdM ad ck Mp Mv Mb Me Md Mdo Mk Mm Mta Mkn Mti Mrl Mrr Mt Mn Mw_6 Mwl_7 Mws_8 Mf_9 Mpa_10 Mne_11)) (va_runV (As := [.int x16]) (rest := []) ⟨hx, hb, hml, hown, hts⟩ (c_X5_isFree l D ad ck H.size Mp Mv Mb Me Md Mdo Mk Mm Mta Mkn Mti Mrl Mrr Mt Mn Mw_6 Mwl_7 Mws_8 Mf_9 Mpa_10 Mne_11 x16 _ hw) (cwV 1 hts gX5_move_X5_isFree rfl rfl rfl (by decide +kernel) ⟨Nat.le_of_ble_eq_true rfl, Nat.le_of_ble_eq_true rfl⟩) (gq_preV hK [0, 1, 2, 3, 4, 5, 6, 7, 8, 9, 10, 11, 12, 13] rfl hP hD [0, 1, 2, 3, 4, 5, 6, 7, 8, 9, 10, 11, 12, 13, 14] rfl rfl hnw 5 0 rfl rfl) rfl rfl hl.1 rfl (lv_room (Nat.le_of_ble_eq_true rfl)) dX5_move_67 ⟨Nat.zero_le _, Nat.zero_le _⟩) hP hD hS hA [0, 1, 2, 3, 4, 5, 6, 7, 8, 9, 10, 11, 12, 13, 14] [] rfl rfl rfl (by decide) [0, 1, 2, 3, 4, 5, 6, 7, 8, 9, 10, 11, 12, 13, 14] rfl (fun _ => rfl) (fun r22 _ H locs hw hP hD hS => ?_)
                  refine lv_if_eq (tgt := 154) hx hb dX5_move_70 (by decide) (fun c23 => ?_) (fun c23 => ?_)
                  · have hw := gq_t c23 hw
                    obtain ⟨v24, ev24⟩ : ∃ y : Int32, y = x16 + 1 := ⟨_, rfl⟩
                    have hw := gq_at1 hw ev24
                    refine lv_iinc (v := v24) (lv' := [(7, .int v24), (0, .ref (ad 16)), (1, .int p1), (2, .int p2), (3, .int p3), (4, .int x13), (5, .int x14), (6, .int x15)]) hx hb dX5_move_154 hl (k := 7) rfl (by rw [ev24]; rfl) (by decide) rfl (fun ls hl => ?_)
                    refine lv_goto (tgt := 38) hx hb dX5_move_157 (by decide) ?_
                    exact ih x13 x14 x15 v24 _ _ hw hP hD hS ls (lv_sub hl [1, 2, 3, 4, 5, 6, 7, 0] rfl)
                  · have hw := gq_f c23 hw
                    refine lv_aload_n hx hb dX5_move_73 rfl (lv_at hl 0 rfl) ?_
                    refine lv_iload hx hb dX5_move_74 (lv_at hl 7 rfl) ?_
                    refine gq_calli (wsN := fun _ => (wdM ad ck Mp Mv Mb Me Md Mdo Mk Mm Mta Mkn Mti Mrl Mrr Mt Mn Mw_6 Mwl_7 Mws_8 Mf_9 Mpa_10 Mne_11)) (va_runV (As := [.int x16]) (rest := []) ⟨hx, hb, hml, hown, hts⟩ (c_X5_honestOf l D ad ck H.size Mp Mv Mb Me Md Mdo Mk Mm Mta Mkn Mti Mrl Mrr Mt Mn Mw_6 Mwl_7 Mws_8 Mf_9 Mpa_10 Mne_11 x16 _ hw) (cwV 1 hts gX5_move_X5_honestOf rfl rfl rfl (by decide +kernel) ⟨Nat.le_of_ble_eq_true rfl, Nat.le_of_ble_eq_true rfl⟩) (gq_preV hK [0, 1, 2, 3, 4, 5, 6, 7, 8, 9, 10, 11, 12, 13] rfl hP hD [0, 1, 2, 3, 4, 5, 6, 7, 8, 9, 10, 11, 12, 13, 14] rfl rfl hnw 5 0 rfl rfl) rfl rfl hl.1 rfl (lv_room (Nat.le_of_ble_eq_true rfl)) dX5_move_76 ⟨Nat.zero_le _, Nat.zero_le _⟩) hP hD hS hA [0, 1, 2, 3, 4, 5, 6, 7, 8, 9, 10, 11, 12, 13, 14] [] rfl rfl rfl (by decide) [0, 1, 2, 3, 4, 5, 6, 7, 8, 9, 10, 11, 12, 13, 14] rfl (fun _ => rfl) (fun r25 _ H locs hw hP hD hS => ?_)
                    refine lv_iload_n hx hb dX5_move_79 rfl (lv_at hl 1 rfl) ?_
                    refine lv_icmp_le (tgt := 86) hx hb dX5_move_80 (by decide) (fun c26 => ?_) (fun c26 => ?_)
                    · have hw := gq_t c26 hw
                      refine lv_aload_n hx hb dX5_move_86 rfl (lv_at hl 0 rfl) ?_
                      refine lv_iload hx hb dX5_move_87 (lv_at hl 7 rfl) ?_
                      refine gq_calli (wsN := fun _ => (wdM ad ck Mp Mv Mb Me Md Mdo Mk Mm Mta Mkn Mti Mrl Mrr Mt Mn Mw_6 Mwl_7 Mws_8 Mf_9 Mpa_10 Mne_11)) (va_runV (As := [.int x16]) (rest := []) ⟨hx, hb, hml, hown, hts⟩ (c_X5_touchedBy l D ad ck H.size Mp Mv Mb Me Md Mdo Mk Mm Mta Mkn Mti Mrl Mrr Mt Mn Mw_6 Mwl_7 Mws_8 Mf_9 Mpa_10 Mne_11 x16 _ hw) (cwV 1 hts gX5_move_X5_touchedBy rfl rfl rfl (by decide +kernel) ⟨Nat.le_of_ble_eq_true rfl, Nat.le_of_ble_eq_true rfl⟩) (gq_preV hK [0, 1, 2, 3, 4, 5, 6, 7, 8, 9, 10, 11, 12, 13] rfl hP hD [0, 1, 2, 3, 4, 5, 6, 7, 8, 9, 10, 11, 12, 13, 14] rfl rfl hnw 5 0 rfl rfl) rfl rfl hl.1 rfl (lv_room (Nat.le_of_ble_eq_true rfl)) dX5_move_89 ⟨Nat.zero_le _, Nat.zero_le _⟩) hP hD hS hA [0, 1, 2, 3, 4, 5, 6, 7, 8, 9, 10, 11, 12, 13, 14] [] rfl rfl rfl (by decide) [0, 1, 2, 3, 4, 5, 6, 7, 8, 9, 10, 11, 12, 13, 14] rfl (fun _ => rfl) (fun r27 _ H locs hw hP hD hS => ?_)
                      refine lv_istore (lv' := [(8, .int r27), (0, .ref (ad 16)), (1, .int p1), (2, .int p2), (3, .int p3), (4, .int x13), (5, .int x14), (6, .int x15), (7, .int x16)]) hx hb dX5_move_92 hl (by decide) rfl (fun ls hl => ?_)
                      refine lv_iload hx hb dX5_move_94 (lv_at hl 8 rfl) ?_
                      refine lv_aload_n hx hb dX5_move_96 rfl (lv_at hl 1 rfl) ?_
                      refine va_get (D := D) (ci := 5) (v := .int Md) (C := RX5) (T := TX5) (N := 21) hx hb hts iX5_move_X5 hown hK hP 0 rfl rfl 4 (by decide) (hts (.fieldLink RX5 70 "DecoyHouseModel" "decoys" "I") (by decide +kernel)) (fun _ h9 => h9) rfl dX5_move_97 ?_
                      refine lv_iand hx hb dX5_move_100 ?_
                      refine gq_calli (wsN := fun _ => (wdM ad ck Mp Mv Mb Me Md Mdo Mk Mm Mta Mkn Mti Mrl Mrr Mt Mn Mw_6 Mwl_7 Mws_8 Mf_9 Mpa_10 Mne_11)) (va_runS (As := [.int (x16 &&& Md)]) (rest := []) ⟨hx, hb, hml, hown, hts⟩ (c_X5_bits l D H.size (x16 &&& Md) _ hw) (va_cwS 1 hts gX5_move_X5_bits rfl rfl rfl (by decide +kernel) ⟨Nat.le_of_ble_eq_true rfl, Nat.le_of_ble_eq_true rfl⟩) (gq_preS hK [] rfl hP hD [] rfl rfl hnw) rfl rfl hl.1 rfl (lv_room (Nat.le_of_ble_eq_true rfl)) dX5_move_101 ⟨Nat.zero_le _, Nat.zero_le _⟩) hP hD hS hA [] [0, 1, 2, 3, 4, 5, 6, 7, 8, 9, 10, 11, 12, 13, 14] rfl rfl rfl (by decide) [0, 1, 2, 3, 4, 5, 6, 7, 8, 9, 10, 11, 12, 13, 14] rfl (fun _ => rfl) (fun r28 _ H locs hw hP hD hS => ?_)
                      refine lv_istore (lv' := [(9, .int r28), (8, .int r27), (0, .ref (ad 16)), (1, .int p1), (2, .int p2), (3, .int p3), (4, .int x13), (5, .int x14), (6, .int x15), (7, .int x16)]) hx hb dX5_move_104 hl (by decide) rfl (fun ls hl => ?_)
                      refine lv_iload hx hb dX5_move_106 (lv_at hl 1 rfl) ?_
                      refine lv_iload_n hx hb dX5_move_108 rfl (lv_at hl 4 rfl) ?_
                      refine lv_icmp_lt (tgt := 154) hx hb dX5_move_109 (by decide) (fun c29 => ?_) (fun c29 => ?_)
                      · have hw := gq_t c29 hw
                        obtain ⟨v30, ev30⟩ : ∃ y : Int32, y = x16 + 1 := ⟨_, rfl⟩
                        have hw := gq_at1 hw ev30
                        refine lv_iinc (v := v30) (lv' := [(7, .int v30), (9, .int r28), (8, .int r27), (0, .ref (ad 16)), (1, .int p1), (2, .int p2), (3, .int p3), (4, .int x13), (5, .int x14), (6, .int x15)]) hx hb dX5_move_154 hl (k := 9) rfl (by rw [ev30]; rfl) (by decide) rfl (fun ls hl => ?_)
                        refine lv_goto (tgt := 38) hx hb dX5_move_157 (by decide) ?_
                        exact ih x13 x14 x15 v30 _ _ hw hP hD hS ls (lv_sub hl [3, 4, 5, 6, 7, 8, 9, 0] rfl)
                      · have hw := gq_f c29 hw
                        refine lv_iload hx hb dX5_move_112 (lv_at hl 6 rfl) ?_
                        refine lv_iconst (v := (-1)) hx hb dX5_move_114 (by decide) ?_
                        refine lv_icmp_eq (tgt := 142) hx hb dX5_move_115 (by decide) (fun c31 => ?_) (fun c31 => ?_)
                        · have hw := gq_t c31 hw
                          refine lv_iload hx hb dX5_move_142 (lv_at hl 9 rfl) ?_
                          refine lv_istore (lv' := [(4, .int x16), (9, .int r28), (8, .int r27), (0, .ref (ad 16)), (1, .int p1), (2, .int p2), (3, .int p3), (5, .int x14), (6, .int x15), (7, .int x16)]) hx hb dX5_move_144 hl (by decide) rfl (fun ls hl => ?_)
                          refine lv_iload hx hb dX5_move_146 (lv_at hl 1 rfl) ?_
                          refine lv_istore (lv' := [(5, .int r28), (4, .int x16), (9, .int r28), (8, .int r27), (0, .ref (ad 16)), (1, .int p1), (2, .int p2), (3, .int p3), (6, .int x15), (7, .int x16)]) hx hb dX5_move_148 hl (by decide) rfl (fun ls hl => ?_)
                          refine lv_iload hx hb dX5_move_150 (lv_at hl 3 rfl) ?_
                          refine lv_istore (lv' := [(6, .int r27), (5, .int r28), (4, .int x16), (9, .int r28), (8, .int r27), (0, .ref (ad 16)), (1, .int p1), (2, .int p2), (3, .int p3), (7, .int x16)]) hx hb dX5_move_152 hl (by decide) rfl (fun ls hl => ?_)
                          obtain ⟨v32, ev32⟩ : ∃ y : Int32, y = x16 + 1 := ⟨_, rfl⟩
                          have hw := gq_at1 hw ev32
                          refine lv_iinc (v := v32) (lv' := [(7, .int v32), (6, .int r27), (5, .int r28), (4, .int x16), (9, .int r28), (8, .int r27), (0, .ref (ad 16)), (1, .int p1), (2, .int p2), (3, .int p3)]) hx hb dX5_move_154 hl (k := 9) rfl (by rw [ev32]; rfl) (by decide) rfl (fun ls hl => ?_)
                          refine lv_goto (tgt := 38) hx hb dX5_move_157 (by decide) ?_
                          exact ih x16 r28 r27 v32 _ _ hw hP hD hS ls (lv_sub hl [6, 7, 8, 9, 3, 2, 1, 0] rfl)
                        · have hw := gq_f c31 hw
                          refine lv_iload hx hb dX5_move_118 (lv_at hl 0 rfl) ?_
                          refine lv_iload hx hb dX5_move_120 (lv_at hl 7 rfl) ?_
                          refine lv_icmp_lt (tgt := 154) hx hb dX5_move_122 (by decide) (fun c33 => ?_) (fun c33 => ?_)
                          · have hw := gq_t c33 hw
                            obtain ⟨v34, ev34⟩ : ∃ y : Int32, y = x16 + 1 := ⟨_, rfl⟩
                            have hw := gq_at1 hw ev34
                            refine lv_iinc (v := v34) (lv' := [(7, .int v34), (9, .int r28), (8, .int r27), (0, .ref (ad 16)), (1, .int p1), (2, .int p2), (3, .int p3), (4, .int x13), (5, .int x14), (6, .int x15)]) hx hb dX5_move_154 hl (k := 9) rfl (by rw [ev34]; rfl) (by decide) rfl (fun ls hl => ?_)
                            refine lv_goto (tgt := 38) hx hb dX5_move_157 (by decide) ?_
                            exact ih x13 x14 x15 v34 _ _ hw hP hD hS ls (lv_sub hl [3, 4, 5, 6, 7, 8, 9, 0] rfl)
                          · have hw := gq_f c33 hw
                            refine lv_iload hx hb dX5_move_125 (lv_at hl 0 rfl) ?_
                            refine lv_iload hx hb dX5_move_127 (lv_at hl 7 rfl) ?_
                            refine lv_icmp_ne (tgt := 142) hx hb dX5_move_129 (by decide) (fun c35 => ?_) (fun c35 => ?_)
                            · have hw := gq_f c35 hw
                              refine lv_iload hx hb dX5_move_142 (lv_at hl 9 rfl) ?_
                              refine lv_istore (lv' := [(4, .int x16), (9, .int r28), (8, .int r27), (0, .ref (ad 16)), (1, .int p1), (2, .int p2), (3, .int p3), (5, .int x14), (6, .int x15), (7, .int x16)]) hx hb dX5_move_144 hl (by decide) rfl (fun ls hl => ?_)
                              refine lv_iload hx hb dX5_move_146 (lv_at hl 1 rfl) ?_
                              refine lv_istore (lv' := [(5, .int r28), (4, .int x16), (9, .int r28), (8, .int r27), (0, .ref (ad 16)), (1, .int p1), (2, .int p2), (3, .int p3), (6, .int x15), (7, .int x16)]) hx hb dX5_move_148 hl (by decide) rfl (fun ls hl => ?_)
                              refine lv_iload hx hb dX5_move_150 (lv_at hl 3 rfl) ?_
                              refine lv_istore (lv' := [(6, .int r27), (5, .int r28), (4, .int x16), (9, .int r28), (8, .int r27), (0, .ref (ad 16)), (1, .int p1), (2, .int p2), (3, .int p3), (7, .int x16)]) hx hb dX5_move_152 hl (by decide) rfl (fun ls hl => ?_)
                              obtain ⟨v36, ev36⟩ : ∃ y : Int32, y = x16 + 1 := ⟨_, rfl⟩
                              have hw := gq_at1 hw ev36
                              refine lv_iinc (v := v36) (lv' := [(7, .int v36), (6, .int r27), (5, .int r28), (4, .int x16), (9, .int r28), (8, .int r27), (0, .ref (ad 16)), (1, .int p1), (2, .int p2), (3, .int p3)]) hx hb dX5_move_154 hl (k := 9) rfl (by rw [ev36]; rfl) (by decide) rfl (fun ls hl => ?_)
                              refine lv_goto (tgt := 38) hx hb dX5_move_157 (by decide) ?_
                              exact ih x16 r28 r27 v36 _ _ hw hP hD hS ls (lv_sub hl [6, 7, 8, 9, 3, 2, 1, 0] rfl)
                            · have hw := gq_t c35 hw
                              refine lv_iload hx hb dX5_move_132 (lv_at hl 1 rfl) ?_
                              refine lv_iload hx hb dX5_move_134 (lv_at hl 8 rfl) ?_
                              refine lv_icmp_gt (tgt := 142) hx hb dX5_move_136 (by decide) (fun c37 => ?_) (fun c37 => ?_)
                              · have hw := gq_t c37 hw
                                refine lv_iload hx hb dX5_move_142 (lv_at hl 9 rfl) ?_
                                refine lv_istore (lv' := [(4, .int x16), (9, .int r28), (8, .int r27), (0, .ref (ad 16)), (1, .int p1), (2, .int p2), (3, .int p3), (5, .int x14), (6, .int x15), (7, .int x16)]) hx hb dX5_move_144 hl (by decide) rfl (fun ls hl => ?_)
                                refine lv_iload hx hb dX5_move_146 (lv_at hl 1 rfl) ?_
                                refine lv_istore (lv' := [(5, .int r28), (4, .int x16), (9, .int r28), (8, .int r27), (0, .ref (ad 16)), (1, .int p1), (2, .int p2), (3, .int p3), (6, .int x15), (7, .int x16)]) hx hb dX5_move_148 hl (by decide) rfl (fun ls hl => ?_)
                                refine lv_iload hx hb dX5_move_150 (lv_at hl 3 rfl) ?_
                                refine lv_istore (lv' := [(6, .int r27), (5, .int r28), (4, .int x16), (9, .int r28), (8, .int r27), (0, .ref (ad 16)), (1, .int p1), (2, .int p2), (3, .int p3), (7, .int x16)]) hx hb dX5_move_152 hl (by decide) rfl (fun ls hl => ?_)
                                obtain ⟨v38, ev38⟩ : ∃ y : Int32, y = x16 + 1 := ⟨_, rfl⟩
                                have hw := gq_at1 hw ev38
                                refine lv_iinc (v := v38) (lv' := [(7, .int v38), (6, .int r27), (5, .int r28), (4, .int x16), (9, .int r28), (8, .int r27), (0, .ref (ad 16)), (1, .int p1), (2, .int p2), (3, .int p3)]) hx hb dX5_move_154 hl (k := 9) rfl (by rw [ev38]; rfl) (by decide) rfl (fun ls hl => ?_)
                                refine lv_goto (tgt := 38) hx hb dX5_move_157 (by decide) ?_
                                exact ih x16 r28 r27 v38 _ _ hw hP hD hS ls (lv_sub hl [6, 7, 8, 9, 3, 2, 1, 0] rfl)
                              · have hw := gq_f c37 hw
                                refine lv_goto (tgt := 154) hx hb dX5_move_139 (by decide) ?_
                                obtain ⟨v39, ev39⟩ : ∃ y : Int32, y = x16 + 1 := ⟨_, rfl⟩
                                have hw := gq_at1 hw ev39
                                refine lv_iinc (v := v39) (lv' := [(7, .int v39), (9, .int r28), (8, .int r27), (0, .ref (ad 16)), (1, .int p1), (2, .int p2), (3, .int p3), (4, .int x13), (5, .int x14), (6, .int x15)]) hx hb dX5_move_154 hl (k := 9) rfl (by rw [ev39]; rfl) (by decide) rfl (fun ls hl => ?_)
                                refine lv_goto (tgt := 38) hx hb dX5_move_157 (by decide) ?_
                                exact ih x13 x14 x15 v39 _ _ hw hP hD hS ls (lv_sub hl [3, 4, 5, 6, 7, 8, 9, 0] rfl)
                    · have hw := gq_f c26 hw
                      refine lv_goto (tgt := 154) hx hb dX5_move_83 (by decide) ?_
                      obtain ⟨v40, ev40⟩ : ∃ y : Int32, y = x16 + 1 := ⟨_, rfl⟩
                      have hw := gq_at1 hw ev40
                      refine lv_iinc (v := v40) (lv' := [(7, .int v40), (0, .ref (ad 16)), (1, .int p1), (2, .int p2), (3, .int p3), (4, .int x13), (5, .int x14), (6, .int x15)]) hx hb dX5_move_154 hl (k := 7) rfl (by rw [ev40]; rfl) (by decide) rfl (fun ls hl => ?_)
                      refine lv_goto (tgt := 38) hx hb dX5_move_157 (by decide) ?_
                      exact ih x13 x14 x15 v40 _ _ hw hP hD hS ls (lv_sub hl [1, 2, 3, 4, 5, 6, 7, 0] rfl)
          obtain ⟨n, hw⟩ := hw
          refine hL38 _ (fun y41 y42 y43 y44 H locs hw hP hD hS ls hl => ?_) n (-1) 0 0 0 _ _ hw hP hD hS ls (lv_sub hl [4, 5, 6, 7, 3, 2, 1, 0] rfl)
          refine lv_iload hx hb dX5_move_160 (lv_at hl 4 rfl) ?_
          refine lv_iconst (v := (-1)) hx hb dX5_move_162 (by decide) ?_
          refine lv_icmp_ne (tgt := 170) hx hb dX5_move_163 (by decide) (fun c45 => ?_) (fun c45 => ?_)
          · have hw := gq_f c45 hw
            refine lv_iload_n hx hb dX5_move_170 rfl (lv_at hl 3 rfl) ?_
            refine lv_if_ne (tgt := 179) hx hb dX5_move_171 (by decide) (fun c46 => ?_) (fun c46 => ?_)
            · have hw := gq_f c46 hw
              refine lv_iload_n hx hb dX5_move_179 rfl (lv_at hl 3 rfl) ?_
              refine lv_iconst (v := 1) hx hb dX5_move_180 (by decide) ?_
              refine lv_icmp_ne (tgt := 197) hx hb dX5_move_181 (by decide) (fun c47 => ?_) (fun c47 => ?_)
              · have hw := gq_f c47 hw
                refine lv_iload hx hb dX5_move_197 (lv_at hl 6 rfl) ?_
                exact hz y43 (Mw_6, Mwl_7, Mws_8, Mf_9, Mpa_10, Mne_11) _ _ _ _ dX5_move_199 hw hP hD hS
              · have hw := gq_t c47 hw
                refine lv_aload_n hx hb dX5_move_184 rfl (lv_at hl 0 rfl) ?_
                refine va_get (D := D) (ci := 5) (v := .int Md) (C := RX5) (T := TX5) (N := 21) hx hb hts iX5_move_X5 hown hK hP 0 rfl rfl 4 (by decide) (hts (.fieldLink RX5 70 "DecoyHouseModel" "decoys" "I") (by decide +kernel)) (fun _ h9 => h9) rfl dX5_move_185 ?_
                refine gq_calli (wsN := fun _ => (wdM ad ck Mp Mv Mb Me Md Mdo Mk Mm Mta Mkn Mti Mrl Mrr Mt Mn Mw_6 Mwl_7 Mws_8 Mf_9 Mpa_10 Mne_11)) (va_runS (As := [.int Md]) (rest := []) ⟨hx, hb, hml, hown, hts⟩ (c_X5_bits l D H.size Md _ hw) (va_cwS 1 hts gX5_move_X5_bits rfl rfl rfl (by decide +kernel) ⟨Nat.le_of_ble_eq_true rfl, Nat.le_of_ble_eq_true rfl⟩) (gq_preS hK [] rfl hP hD [] rfl rfl hnw) rfl rfl hl.1 rfl (lv_room (Nat.le_of_ble_eq_true rfl)) dX5_move_188 ⟨Nat.zero_le _, Nat.zero_le _⟩) hP hD hS hA [] [0, 1, 2, 3, 4, 5, 6, 7, 8, 9, 10, 11, 12, 13, 14] rfl rfl rfl (by decide) [0, 1, 2, 3, 4, 5, 6, 7, 8, 9, 10, 11, 12, 13, 14] rfl (fun _ => rfl) (fun r48 _ H locs hw hP hD hS => ?_)
                refine lv_iload hx hb dX5_move_191 (lv_at hl 5 rfl) ?_
                refine lv_isub hx hb dX5_move_193 ?_
                refine lv_goto (tgt := 199) hx hb dX5_move_194 (by decide) ?_
                exact hz (r48 - y42) (Mw_6, Mwl_7, Mws_8, Mf_9, Mpa_10, Mne_11) _ _ _ _ dX5_move_199 hw hP hD hS
            · have hw := gq_t c46 hw
              refine lv_iload hx hb dX5_move_174 (lv_at hl 4 rfl) ?_
              refine lv_goto (tgt := 199) hx hb dX5_move_176 (by decide) ?_
              exact hz y41 (Mw_6, Mwl_7, Mws_8, Mf_9, Mpa_10, Mne_11) _ _ _ _ dX5_move_199 hw hP hD hS
          · have hw := gq_t c45 hw
            refine lv_iconst (v := (-1)) hx hb dX5_move_166 (by decide) ?_
            refine lv_goto (tgt := 199) hx hb dX5_move_167 (by decide) ?_
            exact hz (-1) (Mw_6, Mwl_7, Mws_8, Mf_9, Mpa_10, Mne_11) _ _ _ _ dX5_move_199 hw hP hD hS
        · have hw := gq_t c12 hw
          refine lv_iconst (v := (-1)) hx hb dX5_move_24 (by decide) ?_
          exact hz (-1) (Mw_6, Mwl_7, Mws_8, Mf_9, Mpa_10, Mne_11) _ _ _ _ dX5_move_25 hw hP hD hS

