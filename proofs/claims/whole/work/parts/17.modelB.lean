def wl_X5_goes_44 (Mp : Int32) (Mdo : Nat → Int32) (x5 : Int32) (v13 : Int32)  (X85 : Int32 → Prop) : Nat → Int32 → Prop
  | 0, _ => False
  | n44 + 1, x15 => (if Mp ≤ x15 then X85 x15 else vp_in ((9 * v13) + x15) 81 ∧ (if (Mdo (((9 * v13) + x15)).toNatClampNeg) = 0 then gq_nm (x15 + 1) (fun v18 : Int32 => wl_X5_goes_44 Mp Mdo x5 v13 X85 n44 v18) else (if ((x5 >>> (x15 &&& 31)) &&& 1) = 1 then gq_nm (x15 + 1) (fun v20 : Int32 => wl_X5_goes_44 Mp Mdo x5 v13 X85 n44 v20) else X85 x15)))

def wl_X5_goes_147 (x4 : Int32) (Mf_9 : Int32) (Mpa_10 : Nat → Int32)  (X181 : Int32 → (Nat → Int32) → Prop) : Nat → Int32 → (Nat → Int32) → Prop
  | 0, _, _ => False
  | n147 + 1, x31, Mw_32 => (if x4 ≤ x31 then X181 x31 Mw_32 else vp_in x31 7 ∧ vp_in ((6 * Mf_9) + x31) 12000 ∧ gq_nm (upd Mw_32 (((6 * Mf_9) + x31)).toNatClampNeg (Mpa_10 (x31).toNatClampNeg)) (fun Mw_34 : Nat → Int32 => gq_nm (x31 + 1) (fun v35 : Int32 => wl_X5_goes_147 x4 Mf_9 Mpa_10 X181 n147 v35 Mw_34)))

def wl_X5_goes_20 (Mp : Int32) (Mdo : Nat → Int32) (Mk : Nat → Int32)   (post : Int32 → (Nat → Int32) → (Nat → Int32) → (Nat → Int32) → Int32 → (Nat → Int32) → (Nat → Int32) → Prop) : Nat → Int32 → Int32 → (Nat → Int32) → (Nat → Int32) → (Nat → Int32) → Int32 → (Nat → Int32) → (Nat → Int32) → Prop
  | 0, _, _, _, _, _, _, _, _ => False
  | n20 + 1, x4, x5, Mw_6, Mwl_7, Mws_8, Mf_9, Mpa_10, Mne_11 => (if x4 ≤ 0 then post 1 Mw_6 Mwl_7 Mws_8 Mf_9 Mpa_10 Mne_11 else vp_in (x4 - 1) 7 ∧ gq_nm (Mpa_10 ((x4 - 1)).toNatClampNeg) (fun v13 : Int32 => vp_in (x4 - 1) 7 ∧ gq_nm (Mne_11 ((x4 - 1)).toNatClampNeg) (fun v14 : Int32 => ∃ k44, wl_X5_goes_44 Mp Mdo x5 v13 (fun (y21 : Int32) => vp_in (x4 - 1) 7 ∧ gq_nm (upd Mne_11 ((x4 - 1)).toNatClampNeg (y21 + 1)) (fun Mne_22 : Nat → Int32 => (if y21 < Mp then vp_in y21 9 ∧ (if (Mk (y21).toNatClampNeg) = 2 then (if Mf_9 = 2000 then post 0 Mw_6 Mwl_7 Mws_8 Mf_9 Mpa_10 Mne_22 else ∃ k147, wl_X5_goes_147 x4 Mf_9 Mpa_10 (fun (y36 : Int32) (Mw_37 : Nat → Int32) => vp_in ((6 * Mf_9) + x4) 12000 ∧ gq_nm (upd Mw_37 (((6 * Mf_9) + x4)).toNatClampNeg y21) (fun Mw_38 : Nat → Int32 => vp_in Mf_9 2000 ∧ gq_nm (upd Mwl_7 (Mf_9).toNatClampNeg (x4 + 1)) (fun Mwl_39 : Nat → Int32 => vp_in Mf_9 2000 ∧ gq_nm (upd Mws_8 (Mf_9).toNatClampNeg (x5 ||| ((1 : Int32) <<< (y21 &&& 31)))) (fun Mws_40 : Nat → Int32 => gq_nm (Mf_9 + 1) (fun v41 : Int32 => wl_X5_goes_20 Mp Mdo Mk post n20 x4 x5 Mw_38 Mwl_39 Mws_40 v41 Mpa_10 Mne_22))))) k147 0 Mw_6) else (if 5 ≤ x4 then wl_X5_goes_20 Mp Mdo Mk post n20 x4 x5 Mw_6 Mwl_7 Mws_8 Mf_9 Mpa_10 Mne_22 else vp_in x4 7 ∧ gq_nm (upd Mpa_10 (x4).toNatClampNeg y21) (fun Mpa_26 : Nat → Int32 => vp_in x4 7 ∧ gq_nm (upd Mne_22 (x4).toNatClampNeg 0) (fun Mne_27 : Nat → Int32 => gq_nm (x4 + 1) (fun v28 : Int32 => gq_nm (x5 ||| ((1 : Int32) <<< (y21 &&& 31))) (fun v29 : Int32 => wl_X5_goes_20 Mp Mdo Mk post n20 v28 v29 Mw_6 Mwl_7 Mws_8 Mf_9 Mpa_26 Mne_27)))))) else gq_nm (x4 + (-1)) (fun v42 : Int32 => gq_nm (x5 &&& (((1 : Int32) <<< (v13 &&& 31)) ^^^ (-1))) (fun v43 : Int32 => wl_X5_goes_20 Mp Mdo Mk post n20 v42 v43 Mw_6 Mwl_7 Mws_8 Mf_9 Mpa_10 Mne_22))))) k44 v14)))

def wp_X5_goes (p1 : Int32) (Mp : Int32) (Mdo : Nat → Int32) (Mk : Nat → Int32) (Mw : Nat → Int32) (Mwl : Nat → Int32) (Mws : Nat → Int32) (Mf : Int32) (Mpa : Nat → Int32) (Mne : Nat → Int32) (post : Int32 → (Nat → Int32) → (Nat → Int32) → (Nat → Int32) → Int32 → (Nat → Int32) → (Nat → Int32) → Prop) : Prop :=
  gq_nm ((1 : Int32) <<< (p1 &&& 31)) (fun v1 : Int32 => vp_in 0 7 ∧ gq_nm (upd Mpa (0 : Int32).toNatClampNeg p1) (fun Mpa_2 : Nat → Int32 => vp_in 0 7 ∧ gq_nm (upd Mne (0 : Int32).toNatClampNeg 0) (fun Mne_3 : Nat → Int32 => ∃ k20, wl_X5_goes_20 Mp Mdo Mk post k20 1 v1 Mw Mwl Mws Mf Mpa_2 Mne_3)))

theorem iX5_goes_X5 : ∀ w ∈ wsX50, w ∈ wsX5_goes := by decide +kernel
set_option maxHeartbeats 4000000 in
set_option maxRecDepth 100000 in
theorem c_X5_goes (l : Launch) (D : va_G) (ad : Nat → Nat) (ck : Nat → ClassId) (sz : Nat) (Mp : Int32) (Mv : Int32) (Mb : Int32) (Me : Int32) (Md : Int32) (Mdo : Nat → Int32) (Mk : Nat → Int32) (Mm : Nat → Int32) (Mta : Nat → Int32) (Mkn : Nat → Int32) (Mti : Nat → Int32) (Mrl : Nat → Int32) (Mrr : Nat → Int32) (Mt : Nat → Int32) (Mn : Int32) (Mw : Nat → Int32) (Mwl : Nat → Int32) (Mws : Nat → Int32) (Mf : Int32) (Mpa : Nat → Int32) (Mne : Nat → Int32) (p1 : Int32) (post : Int32 → (Nat → Int32) → (Nat → Int32) → (Nat → Int32) → Int32 → (Nat → Int32) → (Nat → Int32) → Prop) (hw : wp_X5_goes p1 Mp Mdo Mk Mw Mwl Mws Mf Mpa Mne post) : Met l yX5_goes wsX5_goes { frames := 0, cells := 0, slots := 0, locals := 0 } (va_Pc [.ref (ad 16), .int p1] (gq_pre D (tyM ck) (wdM ad ck Mp Mv Mb Me Md Mdo Mk Mm Mta Mkn Mti Mrl Mrr Mt Mn Mw Mwl Mws Mf Mpa Mne) sz)) (va_Qi (fun (r : Int32) (u : (Nat → Int32) × (Nat → Int32) × (Nat → Int32) × Int32 × (Nat → Int32) × (Nat → Int32)) => post r u.1 u.2.1 u.2.2.1 u.2.2.2.1 u.2.2.2.2.1 u.2.2.2.2.2) (gq_at D (va_A (wdM ad ck Mp Mv Mb Me Md Mdo Mk Mm Mta Mkn Mti Mrl Mrr Mt Mn Mw Mwl Mws Mf Mpa Mne) sz) (fun (u : (Nat → Int32) × (Nat → Int32) × (Nat → Int32) × Int32 × (Nat → Int32) × (Nat → Int32)) => (wdM ad ck Mp Mv Mb Me Md Mdo Mk Mm Mta Mkn Mti Mrl Mrr Mt Mn u.1 u.2.1 u.2.2.1 u.2.2.2.1 u.2.2.2.2.1 u.2.2.2.2.2))) (va_A (wdM ad ck Mp Mv Mb Me Md Mdo Mk Mm Mta Mkn Mti Mrl Mrr Mt Mn Mw Mwl Mws Mf Mpa Mne) sz)) 0 0 (va_A (wdM ad ck Mp Mv Mb Me Md Mdo Mk Mm Mta Mkn Mti Mrl Mrr Mt Mn Mw Mwl Mws Mf Mpa Mne) sz) := by
  refine gq_metz (cc := cX5_goes) (maxL := 7) (lv := [(0, .ref (ad 16)), (1, .int p1)]) (by decide) rfl (Nat.le_of_ble_eq_true rfl) rfl ?_
  intro p e s m below meth c A Q ls H locs hx hb hml hown hts hnw hA hK hP hD hS hl hz
  refine lv_iconst (v := 1) hx hb dX5_goes_0 (by decide) ?_
  refine lv_istore_n (lv' := [(2, .int 1), (0, .ref (ad 16)), (1, .int p1)]) hx hb dX5_goes_1 rfl hl (by decide) rfl (fun ls hl => ?_)
  refine lv_iconst (v := 1) hx hb dX5_goes_2 (by decide) ?_
  refine lv_iload_n hx hb dX5_goes_3 rfl (lv_at hl 2 rfl) ?_
  refine lv_ishl hx hb dX5_goes_4 ?_
  refine lv_topi (fun v1 ev1 => ?_)
  have hw := gq_at1 hw ev1
  refine lv_istore_n (lv' := [(3, .int v1), (2, .int 1), (0, .ref (ad 16)), (1, .int p1)]) hx hb dX5_goes_5 rfl hl (by decide) rfl (fun ls hl => ?_)
  refine lv_aload_n hx hb dX5_goes_6 rfl (lv_at hl 2 rfl) ?_
  refine va_get (D := D) (ci := 5) (v := .ref (ad 29)) (C := RX5) (T := TX5) (N := 21) hx hb hts iX5_goes_X5 hown hK hP 0 rfl rfl 19 (by decide) (hts (.fieldLink RX5 57 "DecoyHouseModel" "path" "[I") (by decide +kernel)) (fun _ h9 => h9) rfl dX5_goes_7 ?_
  refine lv_iconst (v := 0) hx hb dX5_goes_10 (by decide) ?_
  refine lv_iload_n hx hb dX5_goes_11 rfl (lv_at hl 3 rfl) ?_
  refine va_iast hx hb hK hP hD hS 13 12 rfl rfl hw.1 dX5_goes_12 (fun H locs hP hD hS => ?_)
  obtain ⟨Mpa_2, eMpa_2⟩ : ∃ y : Nat → Int32, y = upd Mpa (0 : Int32).toNatClampNeg p1 := ⟨_, rfl⟩
  have hw := gq_at1 hw.2 eMpa_2
  have hP : va_P D vwCl (wdM ad ck Mp Mv Mb Me Md Mdo Mk Mm Mta Mkn Mti Mrl Mrr Mt Mn Mw Mwl Mws Mf Mpa_2 Mne) H := by rw [eMpa_2]; exact hP
  have hD : va_D A (wdM ad ck Mp Mv Mb Me Md Mdo Mk Mm Mta Mkn Mti Mrl Mrr Mt Mn Mw Mwl Mws Mf Mpa_2 Mne) := by rw [eMpa_2]; exact hD
  refine lv_aload_n hx hb dX5_goes_13 rfl (lv_at hl 2 rfl) ?_
  refine va_get (D := D) (ci := 5) (v := .ref (ad 30)) (C := RX5) (T := TX5) (N := 21) hx hb hts iX5_goes_X5 hown hK hP 0 rfl rfl 20 (by decide) (hts (.fieldLink RX5 60 "DecoyHouseModel" "next" "[I") (by decide +kernel)) (fun _ h9 => h9) rfl dX5_goes_14 ?_
  refine lv_iconst (v := 0) hx hb dX5_goes_17 (by decide) ?_
  refine lv_iconst (v := 0) hx hb dX5_goes_18 (by decide) ?_
  refine va_iast hx hb hK hP hD hS 14 13 rfl rfl hw.1 dX5_goes_19 (fun H locs hP hD hS => ?_)
  obtain ⟨Mne_3, eMne_3⟩ : ∃ y : Nat → Int32, y = upd Mne (0 : Int32).toNatClampNeg 0 := ⟨_, rfl⟩
  have hw := gq_at1 hw.2 eMne_3
  have hP : va_P D vwCl (wdM ad ck Mp Mv Mb Me Md Mdo Mk Mm Mta Mkn Mti Mrl Mrr Mt Mn Mw Mwl Mws Mf Mpa_2 Mne_3) H := by rw [eMne_3]; exact hP
  have hD : va_D A (wdM ad ck Mp Mv Mb Me Md Mdo Mk Mm Mta Mkn Mti Mrl Mrr Mt Mn Mw Mwl Mws Mf Mpa_2 Mne_3) := by rw [eMne_3]; exact hD
  have hL20 : ∀ (n : Nat) (x4 : Int32) (x5 : Int32) (Mw_6 : Nat → Int32) (Mwl_7 : Nat → Int32) (Mws_8 : Nat → Int32) (Mf_9 : Int32) (Mpa_10 : Nat → Int32) (Mne_11 : Nat → Int32) (H : Heap) (locs : List Loc), wl_X5_goes_20 Mp Mdo Mk post n x4 x5 Mw_6 Mwl_7 Mws_8 Mf_9 Mpa_10 Mne_11 → va_P D vwCl (wdM ad ck Mp Mv Mb Me Md Mdo Mk Mm Mta Mkn Mti Mrl Mrr Mt Mn Mw_6 Mwl_7 Mws_8 Mf_9 Mpa_10 Mne_11) H → va_D A (wdM ad ck Mp Mv Mb Me Md Mdo Mk Mm Mta Mkn Mti Mrl Mrr Mt Mn Mw_6 Mwl_7 Mws_8 Mf_9 Mpa_10 Mne_11) → va_S A s.heap H locs → ∀ ls : Array Slot, lv_has ls 7 [(0, .ref (ad 16)), (1, .int p1), (2, .int x4), (3, .int x5)] → W p l e { frames := 0, cells := 0, slots := 0, locals := 0 } s m ([.ref (ad 16), .int p1] : List Value).toArray below meth c H locs 0 0 Q (F0 m 20 ls []) := by
    intro n
    induction n with
    | zero =>
      intro x4 x5 Mw_6 Mwl_7 Mws_8 Mf_9 Mpa_10 Mne_11 H locs hw
      exact hw.elim
    | succ n ih =>
      intro x4 x5 Mw_6 Mwl_7 Mws_8 Mf_9 Mpa_10 Mne_11 H locs hw hP hD hS ls hl
      refine lv_iload_n hx hb dX5_goes_20 rfl (lv_at hl 2 rfl) ?_
      refine lv_if_le (tgt := 270) hx hb dX5_goes_21 (by decide) (fun c12 => ?_) (fun c12 => ?_)
      · have hw := gq_t c12 hw
        refine lv_iconst (v := 1) hx hb dX5_goes_270 (by decide) ?_
        exact hz 1 (Mw_6, Mwl_7, Mws_8, Mf_9, Mpa_10, Mne_11) _ _ _ _ dX5_goes_271 gq_zb1 hw hP hD hS
      · have hw := gq_f c12 hw
        refine lv_aload_n hx hb dX5_goes_24 rfl (lv_at hl 0 rfl) ?_
        refine va_get (D := D) (ci := 5) (v := .ref (ad 29)) (C := RX5) (T := TX5) (N := 21) hx hb hts iX5_goes_X5 hown hK hP 0 rfl rfl 19 (by decide) (hts (.fieldLink RX5 57 "DecoyHouseModel" "path" "[I") (by decide +kernel)) (fun _ h9 => h9) rfl dX5_goes_25 ?_
        refine lv_iload_n hx hb dX5_goes_28 rfl (lv_at hl 2 rfl) ?_
        refine lv_iconst (v := 1) hx hb dX5_goes_29 (by decide) ?_
        refine lv_isub hx hb dX5_goes_30 ?_
        refine va_iald hx hb hK hP 13 12 rfl rfl hw.1 dX5_goes_31 ?_
        have hw := hw.2
        refine lv_topi (fun v13 ev13 => ?_)
        have hw := gq_at1 hw ev13
        refine lv_istore (lv' := [(4, .int v13), (0, .ref (ad 16)), (1, .int p1), (2, .int x4), (3, .int x5)]) hx hb dX5_goes_32 hl (by decide) rfl (fun ls hl => ?_)
        refine lv_aload_n hx hb dX5_goes_34 rfl (lv_at hl 1 rfl) ?_
        refine va_get (D := D) (ci := 5) (v := .ref (ad 30)) (C := RX5) (T := TX5) (N := 21) hx hb hts iX5_goes_X5 hown hK hP 0 rfl rfl 20 (by decide) (hts (.fieldLink RX5 60 "DecoyHouseModel" "next" "[I") (by decide +kernel)) (fun _ h9 => h9) rfl dX5_goes_35 ?_
        refine lv_iload_n hx hb dX5_goes_38 rfl (lv_at hl 3 rfl) ?_
        refine lv_iconst (v := 1) hx hb dX5_goes_39 (by decide) ?_
        refine lv_isub hx hb dX5_goes_40 ?_
        refine va_iald hx hb hK hP 14 13 rfl rfl hw.1 dX5_goes_41 ?_
        have hw := hw.2
        refine lv_topi (fun v14 ev14 => ?_)
        have hw := gq_at1 hw ev14
        refine lv_istore (lv' := [(5, .int v14), (4, .int v13), (0, .ref (ad 16)), (1, .int p1), (2, .int x4), (3, .int x5)]) hx hb dX5_goes_42 hl (by decide) rfl (fun ls hl => ?_)
        have hL44 : ∀ (X85 : Int32 → Prop), (∀ (x15 : Int32) (H : Heap) (locs : List Loc), X85 x15 → va_P D vwCl (wdM ad ck Mp Mv Mb Me Md Mdo Mk Mm Mta Mkn Mti Mrl Mrr Mt Mn Mw_6 Mwl_7 Mws_8 Mf_9 Mpa_10 Mne_11) H → va_D A (wdM ad ck Mp Mv Mb Me Md Mdo Mk Mm Mta Mkn Mti Mrl Mrr Mt Mn Mw_6 Mwl_7 Mws_8 Mf_9 Mpa_10 Mne_11) → va_S A s.heap H locs → ∀ ls : Array Slot, lv_has ls 7 [(0, .ref (ad 16)), (1, .int p1), (2, .int x4), (3, .int x5), (4, .int v13), (5, .int x15)] → W p l e { frames := 0, cells := 0, slots := 0, locals := 0 } s m ([.ref (ad 16), .int p1] : List Value).toArray below meth c H locs 0 0 Q (F0 m 85 ls [])) → ∀ (n : Nat) (x15 : Int32) (H : Heap) (locs : List Loc), wl_X5_goes_44 Mp Mdo x5 v13 X85 n x15 → va_P D vwCl (wdM ad ck Mp Mv Mb Me Md Mdo Mk Mm Mta Mkn Mti Mrl Mrr Mt Mn Mw_6 Mwl_7 Mws_8 Mf_9 Mpa_10 Mne_11) H → va_D A (wdM ad ck Mp Mv Mb Me Md Mdo Mk Mm Mta Mkn Mti Mrl Mrr Mt Mn Mw_6 Mwl_7 Mws_8 Mf_9 Mpa_10 Mne_11) → va_S A s.heap H locs → ∀ ls : Array Slot, lv_has ls 7 [(0, .ref (ad 16)), (1, .int p1), (2, .int x4), (3, .int x5), (4, .int v13), (5, .int x15)] → W p l e { frames := 0, cells := 0, slots := 0, locals := 0 } s m ([.ref (ad 16), .int p1] : List Value).toArray below meth c H locs 0 0 Q (F0 m 44 ls []) := by
          intro X85 hX85
          intro n
          induction n with
          | zero =>
            intro x15 H locs hw
            exact hw.elim
          | succ n ih =>
            intro x15 H locs hw hP hD hS ls hl
            refine lv_iload hx hb dX5_goes_44 (lv_at hl 5 rfl) ?_
            refine lv_aload_n hx hb dX5_goes_46 rfl (lv_at hl 0 rfl) ?_
            refine va_get (D := D) (ci := 5) (v := .int Mp) (C := RX5) (T := TX5) (N := 21) hx hb hts iX5_goes_X5 hown hK hP 0 rfl rfl 0 (by decide) (hts (.fieldLink RX5 7 "DecoyHouseModel" "places" "I") (by decide +kernel)) (fun _ h9 => h9) rfl dX5_goes_47 ?_
            refine lv_icmp_ge (tgt := 85) hx hb dX5_goes_50 (by decide) (fun c16 => ?_) (fun c16 => ?_)
            · have hw := gq_t c16 hw
              exact hX85 x15 _ _ hw hP hD hS ls (lv_sub hl [0, 1, 2, 3, 4, 5] rfl)
            · have hw := gq_f c16 hw
              refine lv_aload_n hx hb dX5_goes_53 rfl (lv_at hl 0 rfl) ?_
              refine va_get (D := D) (ci := 5) (v := .ref (ad 17)) (C := RX5) (T := TX5) (N := 21) hx hb hts iX5_goes_X5 hown hK hP 0 rfl rfl 5 (by decide) (hts (.fieldLink RX5 19 "DecoyHouseModel" "door" "[Z") (by decide +kernel)) (fun _ h9 => h9) rfl dX5_goes_54 ?_
              refine lv_bipush (v := 9) hx hb dX5_goes_57 (by decide) ?_
              refine lv_iload hx hb dX5_goes_59 (lv_at hl 4 rfl) ?_
              refine lv_imul hx hb dX5_goes_61 ?_
              refine lv_iload hx hb dX5_goes_62 (lv_at hl 5 rfl) ?_
              refine lv_iadd hx hb dX5_goes_64 ?_
              refine va_zald hx hb hK hP 1 0 rfl rfl hw.1 dX5_goes_65 ?_
              have hw := hw.2
              refine lv_if_eq (tgt := 79) hx hb dX5_goes_66 (by decide) (fun c17 => ?_) (fun c17 => ?_)
              · have hw := gq_t c17 hw
                obtain ⟨v18, ev18⟩ : ∃ y : Int32, y = x15 + 1 := ⟨_, rfl⟩
                have hw := gq_at1 hw ev18
                refine lv_iinc (v := v18) (lv' := [(5, .int v18), (0, .ref (ad 16)), (1, .int p1), (2, .int x4), (3, .int x5), (4, .int v13)]) hx hb dX5_goes_79 hl (k := 5) rfl (by rw [ev18]; rfl) (by decide) rfl (fun ls hl => ?_)
                refine lv_goto (tgt := 44) hx hb dX5_goes_82 (by decide) ?_
                exact ih v18 _ _ hw hP hD hS ls (lv_sub hl [1, 2, 3, 4, 5, 0] rfl)
              · have hw := gq_f c17 hw
                refine lv_iload_n hx hb dX5_goes_69 rfl (lv_at hl 3 rfl) ?_
                refine lv_iload hx hb dX5_goes_70 (lv_at hl 5 rfl) ?_
                refine lv_ishr hx hb dX5_goes_72 ?_
                refine lv_iconst (v := 1) hx hb dX5_goes_73 (by decide) ?_
                refine lv_iand hx hb dX5_goes_74 ?_
                refine lv_iconst (v := 1) hx hb dX5_goes_75 (by decide) ?_
                refine lv_icmp_ne (tgt := 85) hx hb dX5_goes_76 (by decide) (fun c19 => ?_) (fun c19 => ?_)
                · have hw := gq_f c19 hw
                  exact hX85 x15 _ _ hw hP hD hS ls (lv_sub hl [0, 1, 2, 3, 4, 5] rfl)
                · have hw := gq_t c19 hw
                  obtain ⟨v20, ev20⟩ : ∃ y : Int32, y = x15 + 1 := ⟨_, rfl⟩
                  have hw := gq_at1 hw ev20
                  refine lv_iinc (v := v20) (lv' := [(5, .int v20), (0, .ref (ad 16)), (1, .int p1), (2, .int x4), (3, .int x5), (4, .int v13)]) hx hb dX5_goes_79 hl (k := 5) rfl (by rw [ev20]; rfl) (by decide) rfl (fun ls hl => ?_)
                  refine lv_goto (tgt := 44) hx hb dX5_goes_82 (by decide) ?_
                  exact ih v20 _ _ hw hP hD hS ls (lv_sub hl [1, 2, 3, 4, 5, 0] rfl)
        obtain ⟨n, hw⟩ := hw
        refine hL44 _ (fun y21 H locs hw hP hD hS ls hl => ?_) n v14 _ _ hw hP hD hS ls (lv_sub hl [2, 3, 4, 5, 1, 0] rfl)
        refine lv_aload_n hx hb dX5_goes_85 rfl (lv_at hl 0 rfl) ?_
        refine va_get (D := D) (ci := 5) (v := .ref (ad 30)) (C := RX5) (T := TX5) (N := 21) hx hb hts iX5_goes_X5 hown hK hP 0 rfl rfl 20 (by decide) (hts (.fieldLink RX5 60 "DecoyHouseModel" "next" "[I") (by decide +kernel)) (fun _ h9 => h9) rfl dX5_goes_86 ?_
        refine lv_iload_n hx hb dX5_goes_89 rfl (lv_at hl 2 rfl) ?_
        refine lv_iconst (v := 1) hx hb dX5_goes_90 (by decide) ?_
        refine lv_isub hx hb dX5_goes_91 ?_
        refine lv_iload hx hb dX5_goes_92 (lv_at hl 5 rfl) ?_
        refine lv_iconst (v := 1) hx hb dX5_goes_94 (by decide) ?_
        refine lv_iadd hx hb dX5_goes_95 ?_
        refine va_iast hx hb hK hP hD hS 14 13 rfl rfl hw.1 dX5_goes_96 (fun H locs hP hD hS => ?_)
        obtain ⟨Mne_22, eMne_22⟩ : ∃ y : Nat → Int32, y = upd Mne_11 ((x4 - 1)).toNatClampNeg (y21 + 1) := ⟨_, rfl⟩
        have hw := gq_at1 hw.2 eMne_22
        have hP : va_P D vwCl (wdM ad ck Mp Mv Mb Me Md Mdo Mk Mm Mta Mkn Mti Mrl Mrr Mt Mn Mw_6 Mwl_7 Mws_8 Mf_9 Mpa_10 Mne_22) H := by rw [eMne_22]; exact hP
        have hD : va_D A (wdM ad ck Mp Mv Mb Me Md Mdo Mk Mm Mta Mkn Mti Mrl Mrr Mt Mn Mw_6 Mwl_7 Mws_8 Mf_9 Mpa_10 Mne_22) := by rw [eMne_22]; exact hD
        refine lv_iload hx hb dX5_goes_97 (lv_at hl 5 rfl) ?_
        refine lv_aload_n hx hb dX5_goes_99 rfl (lv_at hl 0 rfl) ?_
        refine va_get (D := D) (ci := 5) (v := .int Mp) (C := RX5) (T := TX5) (N := 21) hx hb hts iX5_goes_X5 hown hK hP 0 rfl rfl 0 (by decide) (hts (.fieldLink RX5 7 "DecoyHouseModel" "places" "I") (by decide +kernel)) (fun _ h9 => h9) rfl dX5_goes_100 ?_
        refine lv_icmp_lt (tgt := 121) hx hb dX5_goes_103 (by decide) (fun c23 => ?_) (fun c23 => ?_)
        · have hw := gq_t c23 hw
          refine lv_aload_n hx hb dX5_goes_121 rfl (lv_at hl 0 rfl) ?_
          refine va_get (D := D) (ci := 5) (v := .ref (ad 18)) (C := RX5) (T := TX5) (N := 21) hx hb hts iX5_goes_X5 hown hK hP 0 rfl rfl 6 (by decide) (hts (.fieldLink RX5 23 "DecoyHouseModel" "kind" "[I") (by decide +kernel)) (fun _ h9 => h9) rfl dX5_goes_122 ?_
          refine lv_iload hx hb dX5_goes_125 (lv_at hl 5 rfl) ?_
          refine va_iald hx hb hK hP 2 1 rfl rfl hw.1 dX5_goes_127 ?_
          have hw := hw.2
          refine lv_iconst (v := 2) hx hb dX5_goes_128 (by decide) ?_
          refine lv_icmp_ne (tgt := 237) hx hb dX5_goes_129 (by decide) (fun c24 => ?_) (fun c24 => ?_)
          · have hw := gq_f c24 hw
            refine lv_iload_n hx hb dX5_goes_237 rfl (lv_at hl 2 rfl) ?_
            refine lv_iconst (v := 5) hx hb dX5_goes_238 (by decide) ?_
            refine lv_icmp_ge (tgt := 267) hx hb dX5_goes_239 (by decide) (fun c25 => ?_) (fun c25 => ?_)
            · have hw := gq_t c25 hw
              refine lv_goto (tgt := 20) hx hb dX5_goes_267 (by decide) ?_
              exact ih x4 x5 Mw_6 Mwl_7 Mws_8 Mf_9 Mpa_10 Mne_22 _ _ hw hP hD hS ls (lv_sub hl [0, 1, 2, 3] rfl)
            · have hw := gq_f c25 hw
              refine lv_aload_n hx hb dX5_goes_242 rfl (lv_at hl 0 rfl) ?_
              refine va_get (D := D) (ci := 5) (v := .ref (ad 29)) (C := RX5) (T := TX5) (N := 21) hx hb hts iX5_goes_X5 hown hK hP 0 rfl rfl 19 (by decide) (hts (.fieldLink RX5 57 "DecoyHouseModel" "path" "[I") (by decide +kernel)) (fun _ h9 => h9) rfl dX5_goes_243 ?_
              refine lv_iload_n hx hb dX5_goes_246 rfl (lv_at hl 2 rfl) ?_
              refine lv_iload hx hb dX5_goes_247 (lv_at hl 5 rfl) ?_
              refine va_iast hx hb hK hP hD hS 13 12 rfl rfl hw.1 dX5_goes_249 (fun H locs hP hD hS => ?_)
              obtain ⟨Mpa_26, eMpa_26⟩ : ∃ y : Nat → Int32, y = upd Mpa_10 (x4).toNatClampNeg y21 := ⟨_, rfl⟩
              have hw := gq_at1 hw.2 eMpa_26
              have hP : va_P D vwCl (wdM ad ck Mp Mv Mb Me Md Mdo Mk Mm Mta Mkn Mti Mrl Mrr Mt Mn Mw_6 Mwl_7 Mws_8 Mf_9 Mpa_26 Mne_22) H := by rw [eMpa_26]; exact hP
              have hD : va_D A (wdM ad ck Mp Mv Mb Me Md Mdo Mk Mm Mta Mkn Mti Mrl Mrr Mt Mn Mw_6 Mwl_7 Mws_8 Mf_9 Mpa_26 Mne_22) := by rw [eMpa_26]; exact hD
              refine lv_aload_n hx hb dX5_goes_250 rfl (lv_at hl 0 rfl) ?_
              refine va_get (D := D) (ci := 5) (v := .ref (ad 30)) (C := RX5) (T := TX5) (N := 21) hx hb hts iX5_goes_X5 hown hK hP 0 rfl rfl 20 (by decide) (hts (.fieldLink RX5 60 "DecoyHouseModel" "next" "[I") (by decide +kernel)) (fun _ h9 => h9) rfl dX5_goes_251 ?_
              refine lv_iload_n hx hb dX5_goes_254 rfl (lv_at hl 2 rfl) ?_
              refine lv_iconst (v := 0) hx hb dX5_goes_255 (by decide) ?_
              refine va_iast hx hb hK hP hD hS 14 13 rfl rfl hw.1 dX5_goes_256 (fun H locs hP hD hS => ?_)
              obtain ⟨Mne_27, eMne_27⟩ : ∃ y : Nat → Int32, y = upd Mne_22 (x4).toNatClampNeg 0 := ⟨_, rfl⟩
              have hw := gq_at1 hw.2 eMne_27
              have hP : va_P D vwCl (wdM ad ck Mp Mv Mb Me Md Mdo Mk Mm Mta Mkn Mti Mrl Mrr Mt Mn Mw_6 Mwl_7 Mws_8 Mf_9 Mpa_26 Mne_27) H := by rw [eMne_27]; exact hP
              have hD : va_D A (wdM ad ck Mp Mv Mb Me Md Mdo Mk Mm Mta Mkn Mti Mrl Mrr Mt Mn Mw_6 Mwl_7 Mws_8 Mf_9 Mpa_26 Mne_27) := by rw [eMne_27]; exact hD
              obtain ⟨v28, ev28⟩ : ∃ y : Int32, y = x4 + 1 := ⟨_, rfl⟩
              have hw := gq_at1 hw ev28
              refine lv_iinc (v := v28) (lv' := [(2, .int v28), (0, .ref (ad 16)), (1, .int p1), (3, .int x5), (4, .int v13), (5, .int y21)]) hx hb dX5_goes_257 hl (k := 2) rfl (by rw [ev28]; rfl) (by decide) rfl (fun ls hl => ?_)
              refine lv_iload_n hx hb dX5_goes_260 rfl (lv_at hl 3 rfl) ?_
              refine lv_iconst (v := 1) hx hb dX5_goes_261 (by decide) ?_
              refine lv_iload hx hb dX5_goes_262 (lv_at hl 5 rfl) ?_
              refine lv_ishl hx hb dX5_goes_264 ?_
              refine lv_ior hx hb dX5_goes_265 ?_
              refine lv_topi (fun v29 ev29 => ?_)
              have hw := gq_at1 hw ev29
              refine lv_istore_n (lv' := [(3, .int v29), (2, .int v28), (0, .ref (ad 16)), (1, .int p1), (4, .int v13), (5, .int y21)]) hx hb dX5_goes_266 rfl hl (by decide) rfl (fun ls hl => ?_)
              refine lv_goto (tgt := 20) hx hb dX5_goes_267 (by decide) ?_
              exact ih v28 v29 Mw_6 Mwl_7 Mws_8 Mf_9 Mpa_26 Mne_27 _ _ hw hP hD hS ls (lv_sub hl [2, 3, 1, 0] rfl)
          · have hw := gq_t c24 hw
            refine lv_aload_n hx hb dX5_goes_132 rfl (lv_at hl 0 rfl) ?_
            refine va_get (D := D) (ci := 5) (v := .int Mf_9) (C := RX5) (T := TX5) (N := 21) hx hb hts iX5_goes_X5 hown hK hP 0 rfl rfl 18 (by decide) (hts (.fieldLink RX5 86 "DecoyHouseModel" "ways" "I") (by decide +kernel)) (fun _ h9 => h9) rfl dX5_goes_133 ?_
            refine lv_sipush (v := 2000) hx hb dX5_goes_136 (by decide) ?_
            refine lv_icmp_ne (tgt := 144) hx hb dX5_goes_139 (by decide) (fun c30 => ?_) (fun c30 => ?_)
            · have hw := gq_f c30 hw
              refine lv_iconst (v := 0) hx hb dX5_goes_144 (by decide) ?_
              refine lv_istore (lv' := [(6, .int 0), (0, .ref (ad 16)), (1, .int p1), (2, .int x4), (3, .int x5), (4, .int v13), (5, .int y21)]) hx hb dX5_goes_145 hl (by decide) rfl (fun ls hl => ?_)
              have hL147 : ∀ (X181 : Int32 → (Nat → Int32) → Prop), (∀ (x31 : Int32) (Mw_32 : Nat → Int32) (H : Heap) (locs : List Loc), X181 x31 Mw_32 → va_P D vwCl (wdM ad ck Mp Mv Mb Me Md Mdo Mk Mm Mta Mkn Mti Mrl Mrr Mt Mn Mw_32 Mwl_7 Mws_8 Mf_9 Mpa_10 Mne_22) H → va_D A (wdM ad ck Mp Mv Mb Me Md Mdo Mk Mm Mta Mkn Mti Mrl Mrr Mt Mn Mw_32 Mwl_7 Mws_8 Mf_9 Mpa_10 Mne_22) → va_S A s.heap H locs → ∀ ls : Array Slot, lv_has ls 7 [(0, .ref (ad 16)), (1, .int p1), (2, .int x4), (3, .int x5), (4, .int v13), (5, .int y21), (6, .int x31)] → W p l e { frames := 0, cells := 0, slots := 0, locals := 0 } s m ([.ref (ad 16), .int p1] : List Value).toArray below meth c H locs 0 0 Q (F0 m 181 ls [])) → ∀ (n : Nat) (x31 : Int32) (Mw_32 : Nat → Int32) (H : Heap) (locs : List Loc), wl_X5_goes_147 x4 Mf_9 Mpa_10 X181 n x31 Mw_32 → va_P D vwCl (wdM ad ck Mp Mv Mb Me Md Mdo Mk Mm Mta Mkn Mti Mrl Mrr Mt Mn Mw_32 Mwl_7 Mws_8 Mf_9 Mpa_10 Mne_22) H → va_D A (wdM ad ck Mp Mv Mb Me Md Mdo Mk Mm Mta Mkn Mti Mrl Mrr Mt Mn Mw_32 Mwl_7 Mws_8 Mf_9 Mpa_10 Mne_22) → va_S A s.heap H locs → ∀ ls : Array Slot, lv_has ls 7 [(0, .ref (ad 16)), (1, .int p1), (2, .int x4), (3, .int x5), (4, .int v13), (5, .int y21), (6, .int x31)] → W p l e { frames := 0, cells := 0, slots := 0, locals := 0 } s m ([.ref (ad 16), .int p1] : List Value).toArray below meth c H locs 0 0 Q (F0 m 147 ls []) := by
                intro X181 hX181
                intro n
                induction n with
                | zero =>
                  intro x31 Mw_32 H locs hw
                  exact hw.elim
                | succ n ih =>
                  intro x31 Mw_32 H locs hw hP hD hS ls hl
                  refine lv_iload hx hb dX5_goes_147 (lv_at hl 6 rfl) ?_
                  refine lv_iload_n hx hb dX5_goes_149 rfl (lv_at hl 2 rfl) ?_
                  refine lv_icmp_ge (tgt := 181) hx hb dX5_goes_150 (by decide) (fun c33 => ?_) (fun c33 => ?_)
                  · have hw := gq_t c33 hw
                    exact hX181 x31 Mw_32 _ _ hw hP hD hS ls (lv_sub hl [0, 1, 2, 3, 4, 5, 6] rfl)
                  · have hw := gq_f c33 hw
                    refine lv_aload_n hx hb dX5_goes_153 rfl (lv_at hl 0 rfl) ?_
                    refine va_get (D := D) (ci := 5) (v := .ref (ad 26)) (C := RX5) (T := TX5) (N := 21) hx hb hts iX5_goes_X5 hown hK hP 0 rfl rfl 15 (by decide) (hts (.fieldLink RX5 48 "DecoyHouseModel" "way" "[I") (by decide +kernel)) (fun _ h9 => h9) rfl dX5_goes_154 ?_
                    refine lv_bipush (v := 6) hx hb dX5_goes_157 (by decide) ?_
                    refine lv_aload_n hx hb dX5_goes_159 rfl (lv_at hl 0 rfl) ?_
                    refine va_get (D := D) (ci := 5) (v := .int Mf_9) (C := RX5) (T := TX5) (N := 21) hx hb hts iX5_goes_X5 hown hK hP 0 rfl rfl 18 (by decide) (hts (.fieldLink RX5 86 "DecoyHouseModel" "ways" "I") (by decide +kernel)) (fun _ h9 => h9) rfl dX5_goes_160 ?_
                    refine lv_imul hx hb dX5_goes_163 ?_
                    refine lv_iload hx hb dX5_goes_164 (lv_at hl 6 rfl) ?_
                    refine lv_iadd hx hb dX5_goes_166 ?_
                    refine lv_aload_n hx hb dX5_goes_167 rfl (lv_at hl 0 rfl) ?_
                    refine va_get (D := D) (ci := 5) (v := .ref (ad 29)) (C := RX5) (T := TX5) (N := 21) hx hb hts iX5_goes_X5 hown hK hP 0 rfl rfl 19 (by decide) (hts (.fieldLink RX5 57 "DecoyHouseModel" "path" "[I") (by decide +kernel)) (fun _ h9 => h9) rfl dX5_goes_168 ?_
                    refine lv_iload hx hb dX5_goes_171 (lv_at hl 6 rfl) ?_
                    refine va_iald hx hb hK hP 13 12 rfl rfl hw.1 dX5_goes_173 ?_
                    have hw := hw.2
                    refine va_iast hx hb hK hP hD hS 10 9 rfl rfl hw.1 dX5_goes_174 (fun H locs hP hD hS => ?_)
                    obtain ⟨Mw_34, eMw_34⟩ : ∃ y : Nat → Int32, y = upd Mw_32 (((6 * Mf_9) + x31)).toNatClampNeg (Mpa_10 (x31).toNatClampNeg) := ⟨_, rfl⟩
                    have hw := gq_at1 hw.2 eMw_34
                    have hP : va_P D vwCl (wdM ad ck Mp Mv Mb Me Md Mdo Mk Mm Mta Mkn Mti Mrl Mrr Mt Mn Mw_34 Mwl_7 Mws_8 Mf_9 Mpa_10 Mne_22) H := by rw [eMw_34]; exact hP
                    have hD : va_D A (wdM ad ck Mp Mv Mb Me Md Mdo Mk Mm Mta Mkn Mti Mrl Mrr Mt Mn Mw_34 Mwl_7 Mws_8 Mf_9 Mpa_10 Mne_22) := by rw [eMw_34]; exact hD
                    obtain ⟨v35, ev35⟩ : ∃ y : Int32, y = x31 + 1 := ⟨_, rfl⟩
                    have hw := gq_at1 hw ev35
                    refine lv_iinc (v := v35) (lv' := [(6, .int v35), (0, .ref (ad 16)), (1, .int p1), (2, .int x4), (3, .int x5), (4, .int v13), (5, .int y21)]) hx hb dX5_goes_175 hl (k := 6) rfl (by rw [ev35]; rfl) (by decide) rfl (fun ls hl => ?_)
                    refine lv_goto (tgt := 147) hx hb dX5_goes_178 (by decide) ?_
                    exact ih v35 Mw_34 _ _ hw hP hD hS ls (lv_sub hl [1, 2, 3, 4, 5, 6, 0] rfl)
              obtain ⟨n, hw⟩ := hw
              refine hL147 _ (fun y36 Mw_37 H locs hw hP hD hS ls hl => ?_) n 0 Mw_6 _ _ hw hP hD hS ls (lv_sub hl [1, 2, 3, 4, 5, 6, 0] rfl)
              refine lv_aload_n hx hb dX5_goes_181 rfl (lv_at hl 0 rfl) ?_
              refine va_get (D := D) (ci := 5) (v := .ref (ad 26)) (C := RX5) (T := TX5) (N := 21) hx hb hts iX5_goes_X5 hown hK hP 0 rfl rfl 15 (by decide) (hts (.fieldLink RX5 48 "DecoyHouseModel" "way" "[I") (by decide +kernel)) (fun _ h9 => h9) rfl dX5_goes_182 ?_
              refine lv_bipush (v := 6) hx hb dX5_goes_185 (by decide) ?_
              refine lv_aload_n hx hb dX5_goes_187 rfl (lv_at hl 0 rfl) ?_
              refine va_get (D := D) (ci := 5) (v := .int Mf_9) (C := RX5) (T := TX5) (N := 21) hx hb hts iX5_goes_X5 hown hK hP 0 rfl rfl 18 (by decide) (hts (.fieldLink RX5 86 "DecoyHouseModel" "ways" "I") (by decide +kernel)) (fun _ h9 => h9) rfl dX5_goes_188 ?_
              refine lv_imul hx hb dX5_goes_191 ?_
              refine lv_iload_n hx hb dX5_goes_192 rfl (lv_at hl 2 rfl) ?_
              refine lv_iadd hx hb dX5_goes_193 ?_
              refine lv_iload hx hb dX5_goes_194 (lv_at hl 5 rfl) ?_
              refine va_iast hx hb hK hP hD hS 10 9 rfl rfl hw.1 dX5_goes_196 (fun H locs hP hD hS => ?_)
              obtain ⟨Mw_38, eMw_38⟩ : ∃ y : Nat → Int32, y = upd Mw_37 (((6 * Mf_9) + x4)).toNatClampNeg y21 := ⟨_, rfl⟩
              have hw := gq_at1 hw.2 eMw_38
              have hP : va_P D vwCl (wdM ad ck Mp Mv Mb Me Md Mdo Mk Mm Mta Mkn Mti Mrl Mrr Mt Mn Mw_38 Mwl_7 Mws_8 Mf_9 Mpa_10 Mne_22) H := by rw [eMw_38]; exact hP
              have hD : va_D A (wdM ad ck Mp Mv Mb Me Md Mdo Mk Mm Mta Mkn Mti Mrl Mrr Mt Mn Mw_38 Mwl_7 Mws_8 Mf_9 Mpa_10 Mne_22) := by rw [eMw_38]; exact hD
              refine lv_aload_n hx hb dX5_goes_197 rfl (lv_at hl 0 rfl) ?_
              refine va_get (D := D) (ci := 5) (v := .ref (ad 27)) (C := RX5) (T := TX5) (N := 21) hx hb hts iX5_goes_X5 hown hK hP 0 rfl rfl 16 (by decide) (hts (.fieldLink RX5 51 "DecoyHouseModel" "wayLong" "[I") (by decide +kernel)) (fun _ h9 => h9) rfl dX5_goes_198 ?_
              refine lv_aload_n hx hb dX5_goes_201 rfl (lv_at hl 0 rfl) ?_
              refine va_get (D := D) (ci := 5) (v := .int Mf_9) (C := RX5) (T := TX5) (N := 21) hx hb hts iX5_goes_X5 hown hK hP 0 rfl rfl 18 (by decide) (hts (.fieldLink RX5 86 "DecoyHouseModel" "ways" "I") (by decide +kernel)) (fun _ h9 => h9) rfl dX5_goes_202 ?_
              refine lv_iload_n hx hb dX5_goes_205 rfl (lv_at hl 2 rfl) ?_
              refine lv_iconst (v := 1) hx hb dX5_goes_206 (by decide) ?_
              refine lv_iadd hx hb dX5_goes_207 ?_
              refine va_iast hx hb hK hP hD hS 11 10 rfl rfl hw.1 dX5_goes_208 (fun H locs hP hD hS => ?_)
              obtain ⟨Mwl_39, eMwl_39⟩ : ∃ y : Nat → Int32, y = upd Mwl_7 (Mf_9).toNatClampNeg (x4 + 1) := ⟨_, rfl⟩
              have hw := gq_at1 hw.2 eMwl_39
              have hP : va_P D vwCl (wdM ad ck Mp Mv Mb Me Md Mdo Mk Mm Mta Mkn Mti Mrl Mrr Mt Mn Mw_38 Mwl_39 Mws_8 Mf_9 Mpa_10 Mne_22) H := by rw [eMwl_39]; exact hP
              have hD : va_D A (wdM ad ck Mp Mv Mb Me Md Mdo Mk Mm Mta Mkn Mti Mrl Mrr Mt Mn Mw_38 Mwl_39 Mws_8 Mf_9 Mpa_10 Mne_22) := by rw [eMwl_39]; exact hD
              refine lv_aload_n hx hb dX5_goes_209 rfl (lv_at hl 0 rfl) ?_
              refine va_get (D := D) (ci := 5) (v := .ref (ad 28)) (C := RX5) (T := TX5) (N := 21) hx hb hts iX5_goes_X5 hown hK hP 0 rfl rfl 17 (by decide) (hts (.fieldLink RX5 54 "DecoyHouseModel" "waySet" "[I") (by decide +kernel)) (fun _ h9 => h9) rfl dX5_goes_210 ?_
              refine lv_aload_n hx hb dX5_goes_213 rfl (lv_at hl 0 rfl) ?_
              refine va_get (D := D) (ci := 5) (v := .int Mf_9) (C := RX5) (T := TX5) (N := 21) hx hb hts iX5_goes_X5 hown hK hP 0 rfl rfl 18 (by decide) (hts (.fieldLink RX5 86 "DecoyHouseModel" "ways" "I") (by decide +kernel)) (fun _ h9 => h9) rfl dX5_goes_214 ?_
              refine lv_iload_n hx hb dX5_goes_217 rfl (lv_at hl 3 rfl) ?_
              refine lv_iconst (v := 1) hx hb dX5_goes_218 (by decide) ?_
              refine lv_iload hx hb dX5_goes_219 (lv_at hl 5 rfl) ?_
              refine lv_ishl hx hb dX5_goes_221 ?_
              refine lv_ior hx hb dX5_goes_222 ?_
              refine va_iast hx hb hK hP hD hS 12 11 rfl rfl hw.1 dX5_goes_223 (fun H locs hP hD hS => ?_)
              obtain ⟨Mws_40, eMws_40⟩ : ∃ y : Nat → Int32, y = upd Mws_8 (Mf_9).toNatClampNeg (x5 ||| ((1 : Int32) <<< (y21 &&& 31))) := ⟨_, rfl⟩
              have hw := gq_at1 hw.2 eMws_40
              have hP : va_P D vwCl (wdM ad ck Mp Mv Mb Me Md Mdo Mk Mm Mta Mkn Mti Mrl Mrr Mt Mn Mw_38 Mwl_39 Mws_40 Mf_9 Mpa_10 Mne_22) H := by rw [eMws_40]; exact hP
              have hD : va_D A (wdM ad ck Mp Mv Mb Me Md Mdo Mk Mm Mta Mkn Mti Mrl Mrr Mt Mn Mw_38 Mwl_39 Mws_40 Mf_9 Mpa_10 Mne_22) := by rw [eMws_40]; exact hD
              refine lv_aload_n hx hb dX5_goes_224 rfl (lv_at hl 0 rfl) ?_
              refine lv_dup hx hb dX5_goes_225 rfl ?_
              refine va_get (D := D) (ci := 5) (v := .int Mf_9) (C := RX5) (T := TX5) (N := 21) hx hb hts iX5_goes_X5 hown hK hP 0 rfl rfl 18 (by decide) (hts (.fieldLink RX5 86 "DecoyHouseModel" "ways" "I") (by decide +kernel)) (fun _ h9 => h9) rfl dX5_goes_226 ?_
              refine lv_iconst (v := 1) hx hb dX5_goes_229 (by decide) ?_
              refine lv_iadd hx hb dX5_goes_230 ?_
              refine lv_topi (fun v41 ev41 => ?_)
              have hw := gq_at1 hw ev41
              refine va_put (D := D) (ci := 5) (v := .int v41) (ty := .int) (C := RX5) (T := TX5) (N := 21) hx hb hts iX5_goes_X5 tyX5 tyX5_ok nmX5 hown hK hP hD hS 0 rfl rfl 18 (by decide) (hts (.fieldLink RX5 86 "DecoyHouseModel" "ways" "I") (by decide +kernel)) (fun _ h9 => h9) rfl (by decide +kernel) rfl rfl (Nat.le_of_ble_eq_true rfl) dX5_goes_231 (fun H locs hP hD hS => ?_)
              have hP : va_P D vwCl (wdM ad ck Mp Mv Mb Me Md Mdo Mk Mm Mta Mkn Mti Mrl Mrr Mt Mn Mw_38 Mwl_39 Mws_40 v41 Mpa_10 Mne_22) H := hP
              have hD : va_D A (wdM ad ck Mp Mv Mb Me Md Mdo Mk Mm Mta Mkn Mti Mrl Mrr Mt Mn Mw_38 Mwl_39 Mws_40 v41 Mpa_10 Mne_22) := hD
              refine lv_goto (tgt := 267) hx hb dX5_goes_234 (by decide) ?_
              refine lv_goto (tgt := 20) hx hb dX5_goes_267 (by decide) ?_
              exact ih x4 x5 Mw_38 Mwl_39 Mws_40 v41 Mpa_10 Mne_22 _ _ hw hP hD hS ls (lv_sub hl [0, 1, 2, 3] rfl)
            · have hw := gq_t c30 hw
              refine lv_iconst (v := 0) hx hb dX5_goes_142 (by decide) ?_
              exact hz 0 (Mw_6, Mwl_7, Mws_8, Mf_9, Mpa_10, Mne_22) _ _ _ _ dX5_goes_143 gq_zb0 hw hP hD hS
        · have hw := gq_f c23 hw
          obtain ⟨v42, ev42⟩ : ∃ y : Int32, y = x4 + (-1) := ⟨_, rfl⟩
          have hw := gq_at1 hw ev42
          refine lv_iinc (v := v42) (lv' := [(2, .int v42), (0, .ref (ad 16)), (1, .int p1), (3, .int x5), (4, .int v13), (5, .int y21)]) hx hb dX5_goes_106 hl (k := 2) rfl (by rw [ev42]; rfl) (by decide) rfl (fun ls hl => ?_)
          refine lv_iload_n hx hb dX5_goes_109 rfl (lv_at hl 3 rfl) ?_
          refine lv_iconst (v := 1) hx hb dX5_goes_110 (by decide) ?_
          refine lv_iload hx hb dX5_goes_111 (lv_at hl 4 rfl) ?_
          refine lv_ishl hx hb dX5_goes_113 ?_
          refine lv_iconst (v := (-1)) hx hb dX5_goes_114 (by decide) ?_
          refine lv_ixor hx hb dX5_goes_115 ?_
          refine lv_iand hx hb dX5_goes_116 ?_
          refine lv_topi (fun v43 ev43 => ?_)
          have hw := gq_at1 hw ev43
          refine lv_istore_n (lv' := [(3, .int v43), (2, .int v42), (0, .ref (ad 16)), (1, .int p1), (4, .int v13), (5, .int y21)]) hx hb dX5_goes_117 rfl hl (by decide) rfl (fun ls hl => ?_)
          refine lv_goto (tgt := 20) hx hb dX5_goes_118 (by decide) ?_
          exact ih v42 v43 Mw_6 Mwl_7 Mws_8 Mf_9 Mpa_10 Mne_22 _ _ hw hP hD hS ls (lv_sub hl [2, 3, 1, 0] rfl)
  obtain ⟨n, hw⟩ := hw
  exact hL20 n 1 v1 Mw Mwl Mws Mf Mpa_2 Mne_3 _ _ hw hP hD hS ls (lv_sub hl [2, 3, 1, 0] rfl)

def wl_X5_finds_7 (Mp : Int32) (Mdo : Nat → Int32) (Mk : Nat → Int32)   (post : Int32 → (Nat → Int32) → (Nat → Int32) → (Nat → Int32) → Int32 → (Nat → Int32) → (Nat → Int32) → Prop) : Nat → Int32 → (Nat → Int32) → (Nat → Int32) → (Nat → Int32) → Int32 → (Nat → Int32) → (Nat → Int32) → Prop
  | 0, _, _, _, _, _, _, _ => False
  | n7 + 1, x1, Mw_2, Mwl_3, Mws_4, Mf_5, Mpa_6, Mne_7 => (if Mp ≤ x1 then post 1 Mw_2 Mwl_3 Mws_4 Mf_5 Mpa_6 Mne_7 else vp_in x1 9 ∧ (if (Mk (x1).toNatClampNeg) = 1 then wp_X5_goes x1 Mp Mdo Mk Mw_2 Mwl_3 Mws_4 Mf_5 Mpa_6 Mne_7 (fun (r11 : Int32) (Mw_12 : Nat → Int32) (Mwl_13 : Nat → Int32) (Mws_14 : Nat → Int32) (Mf_15 : Int32) (Mpa_16 : Nat → Int32) (Mne_17 : Nat → Int32) => (if r11 = 0 then post 0 Mw_12 Mwl_13 Mws_14 Mf_15 Mpa_16 Mne_17 else gq_nm (x1 + 1) (fun v19 : Int32 => wl_X5_finds_7 Mp Mdo Mk post n7 v19 Mw_12 Mwl_13 Mws_14 Mf_15 Mpa_16 Mne_17))) else gq_nm (x1 + 1) (fun v10 : Int32 => wl_X5_finds_7 Mp Mdo Mk post n7 v10 Mw_2 Mwl_3 Mws_4 Mf_5 Mpa_6 Mne_7)))

def wp_X5_finds  (Mp : Int32) (Mdo : Nat → Int32) (Mk : Nat → Int32) (Mw : Nat → Int32) (Mwl : Nat → Int32) (Mws : Nat → Int32) (Mf : Int32) (Mpa : Nat → Int32) (Mne : Nat → Int32) (post : Int32 → (Nat → Int32) → (Nat → Int32) → (Nat → Int32) → Int32 → (Nat → Int32) → (Nat → Int32) → Prop) : Prop :=
  ∃ k7, wl_X5_finds_7 Mp Mdo Mk post k7 0 Mw Mwl Mws 0 Mpa Mne

theorem iX5_finds_X5 : ∀ w ∈ wsX50, w ∈ wsX5_finds := by decide +kernel
set_option maxHeartbeats 4000000 in
set_option maxRecDepth 100000 in
theorem c_X5_finds (l : Launch) (D : va_G) (ad : Nat → Nat) (ck : Nat → ClassId) (sz : Nat) (Mp : Int32) (Mv : Int32) (Mb : Int32) (Me : Int32) (Md : Int32) (Mdo : Nat → Int32) (Mk : Nat → Int32) (Mm : Nat → Int32) (Mta : Nat → Int32) (Mkn : Nat → Int32) (Mti : Nat → Int32) (Mrl : Nat → Int32) (Mrr : Nat → Int32) (Mt : Nat → Int32) (Mn : Int32) (Mw : Nat → Int32) (Mwl : Nat → Int32) (Mws : Nat → Int32) (Mf : Int32) (Mpa : Nat → Int32) (Mne : Nat → Int32)  (post : Int32 → (Nat → Int32) → (Nat → Int32) → (Nat → Int32) → Int32 → (Nat → Int32) → (Nat → Int32) → Prop) (hw : wp_X5_finds Mp Mdo Mk Mw Mwl Mws Mf Mpa Mne post) : Met l yX5_finds wsX5_finds { frames := 1, cells := 0, slots := 0, locals := 26 } (va_Pc [.ref (ad 16)] (gq_pre D (tyM ck) (wdM ad ck Mp Mv Mb Me Md Mdo Mk Mm Mta Mkn Mti Mrl Mrr Mt Mn Mw Mwl Mws Mf Mpa Mne) sz)) (va_Qi (fun (r : Int32) (u : (Nat → Int32) × (Nat → Int32) × (Nat → Int32) × Int32 × (Nat → Int32) × (Nat → Int32)) => post r u.1 u.2.1 u.2.2.1 u.2.2.2.1 u.2.2.2.2.1 u.2.2.2.2.2) (gq_at D (va_A (wdM ad ck Mp Mv Mb Me Md Mdo Mk Mm Mta Mkn Mti Mrl Mrr Mt Mn Mw Mwl Mws Mf Mpa Mne) sz) (fun (u : (Nat → Int32) × (Nat → Int32) × (Nat → Int32) × Int32 × (Nat → Int32) × (Nat → Int32)) => (wdM ad ck Mp Mv Mb Me Md Mdo Mk Mm Mta Mkn Mti Mrl Mrr Mt Mn u.1 u.2.1 u.2.2.1 u.2.2.2.1 u.2.2.2.2.1 u.2.2.2.2.2))) (va_A (wdM ad ck Mp Mv Mb Me Md Mdo Mk Mm Mta Mkn Mti Mrl Mrr Mt Mn Mw Mwl Mws Mf Mpa Mne) sz)) 0 0 (va_A (wdM ad ck Mp Mv Mb Me Md Mdo Mk Mm Mta Mkn Mti Mrl Mrr Mt Mn Mw Mwl Mws Mf Mpa Mne) sz) := by
  refine gq_metz (cc := cX5_finds) (maxL := 2) (lv := [(0, .ref (ad 16))]) (by decide) rfl (Nat.le_of_ble_eq_true rfl) rfl ?_
  intro p e s m below meth c A Q ls H locs hx hb hml hown hts hnw hA hK hP hD hS hl hz
  refine lv_aload_n hx hb dX5_finds_0 rfl (lv_at hl 0 rfl) ?_
  refine lv_iconst (v := 0) hx hb dX5_finds_1 (by decide) ?_
  refine va_put (D := D) (ci := 5) (v := .int 0) (ty := .int) (C := RX5) (T := TX5) (N := 21) hx hb hts iX5_finds_X5 tyX5 tyX5_ok nmX5 hown hK hP hD hS 0 rfl rfl 18 (by decide) (hts (.fieldLink RX5 86 "DecoyHouseModel" "ways" "I") (by decide +kernel)) (fun _ h9 => h9) rfl (by decide +kernel) rfl rfl (Nat.le_of_ble_eq_true rfl) dX5_finds_2 (fun H locs hP hD hS => ?_)
  have hP : va_P D vwCl (wdM ad ck Mp Mv Mb Me Md Mdo Mk Mm Mta Mkn Mti Mrl Mrr Mt Mn Mw Mwl Mws 0 Mpa Mne) H := hP
  have hD : va_D A (wdM ad ck Mp Mv Mb Me Md Mdo Mk Mm Mta Mkn Mti Mrl Mrr Mt Mn Mw Mwl Mws 0 Mpa Mne) := hD
  refine lv_iconst (v := 0) hx hb dX5_finds_5 (by decide) ?_
  refine lv_istore_n (lv' := [(1, .int 0), (0, .ref (ad 16))]) hx hb dX5_finds_6 rfl hl (by decide) rfl (fun ls hl => ?_)
  have hL7 : ∀ (n : Nat) (x1 : Int32) (Mw_2 : Nat → Int32) (Mwl_3 : Nat → Int32) (Mws_4 : Nat → Int32) (Mf_5 : Int32) (Mpa_6 : Nat → Int32) (Mne_7 : Nat → Int32) (H : Heap) (locs : List Loc), wl_X5_finds_7 Mp Mdo Mk post n x1 Mw_2 Mwl_3 Mws_4 Mf_5 Mpa_6 Mne_7 → va_P D vwCl (wdM ad ck Mp Mv Mb Me Md Mdo Mk Mm Mta Mkn Mti Mrl Mrr Mt Mn Mw_2 Mwl_3 Mws_4 Mf_5 Mpa_6 Mne_7) H → va_D A (wdM ad ck Mp Mv Mb Me Md Mdo Mk Mm Mta Mkn Mti Mrl Mrr Mt Mn Mw_2 Mwl_3 Mws_4 Mf_5 Mpa_6 Mne_7) → va_S A s.heap H locs → ∀ ls : Array Slot, lv_has ls 2 [(0, .ref (ad 16)), (1, .int x1)] → W p l e { frames := 1, cells := 0, slots := 0, locals := 26 } s m ([.ref (ad 16)] : List Value).toArray below meth c H locs 0 0 Q (F0 m 7 ls []) := by
    intro n
    induction n with
    | zero =>
      intro x1 Mw_2 Mwl_3 Mws_4 Mf_5 Mpa_6 Mne_7 H locs hw
      exact hw.elim
    | succ n ih =>
      intro x1 Mw_2 Mwl_3 Mws_4 Mf_5 Mpa_6 Mne_7 H locs hw hP hD hS ls hl
      refine lv_iload_n hx hb dX5_finds_7 rfl (lv_at hl 1 rfl) ?_
      refine lv_aload_n hx hb dX5_finds_8 rfl (lv_at hl 0 rfl) ?_
      refine va_get (D := D) (ci := 5) (v := .int Mp) (C := RX5) (T := TX5) (N := 21) hx hb hts iX5_finds_X5 hown hK hP 0 rfl rfl 0 (by decide) (hts (.fieldLink RX5 7 "DecoyHouseModel" "places" "I") (by decide +kernel)) (fun _ h9 => h9) rfl dX5_finds_9 ?_
      refine lv_icmp_ge (tgt := 41) hx hb dX5_finds_12 (by decide) (fun c8 => ?_) (fun c8 => ?_)
      · have hw := gq_t c8 hw
        refine lv_iconst (v := 1) hx hb dX5_finds_41 (by decide) ?_
        exact hz 1 (Mw_2, Mwl_3, Mws_4, Mf_5, Mpa_6, Mne_7) _ _ _ _ dX5_finds_42 gq_zb1 hw hP hD hS
      · have hw := gq_f c8 hw
        refine lv_aload_n hx hb dX5_finds_15 rfl (lv_at hl 0 rfl) ?_
        refine va_get (D := D) (ci := 5) (v := .ref (ad 18)) (C := RX5) (T := TX5) (N := 21) hx hb hts iX5_finds_X5 hown hK hP 0 rfl rfl 6 (by decide) (hts (.fieldLink RX5 23 "DecoyHouseModel" "kind" "[I") (by decide +kernel)) (fun _ h9 => h9) rfl dX5_finds_16 ?_
        refine lv_iload_n hx hb dX5_finds_19 rfl (lv_at hl 1 rfl) ?_
        refine va_iald hx hb hK hP 2 1 rfl rfl hw.1 dX5_finds_20 ?_
        have hw := hw.2
        refine lv_iconst (v := 1) hx hb dX5_finds_21 (by decide) ?_
        refine lv_icmp_ne (tgt := 35) hx hb dX5_finds_22 (by decide) (fun c9 => ?_) (fun c9 => ?_)
        · have hw := gq_f c9 hw
          obtain ⟨v10, ev10⟩ : ∃ y : Int32, y = x1 + 1 := ⟨_, rfl⟩
          have hw := gq_at1 hw ev10
          refine lv_iinc (v := v10) (lv' := [(1, .int v10), (0, .ref (ad 16))]) hx hb dX5_finds_35 hl (k := 1) rfl (by rw [ev10]; rfl) (by decide) rfl (fun ls hl => ?_)
          refine lv_goto (tgt := 7) hx hb dX5_finds_38 (by decide) ?_
          exact ih v10 Mw_2 Mwl_3 Mws_4 Mf_5 Mpa_6 Mne_7 _ _ hw hP hD hS ls (lv_sub hl [1, 0] rfl)
        · have hw := gq_t c9 hw
          refine lv_aload_n hx hb dX5_finds_25 rfl (lv_at hl 0 rfl) ?_
          refine lv_iload_n hx hb dX5_finds_26 rfl (lv_at hl 1 rfl) ?_
          refine gq_calli (wsN := fun u => (wdM ad ck Mp Mv Mb Me Md Mdo Mk Mm Mta Mkn Mti Mrl Mrr Mt Mn u.1 u.2.1 u.2.2.1 u.2.2.2.1 u.2.2.2.2.1 u.2.2.2.2.2)) (va_runV (As := [.int x1]) (rest := []) ⟨hx, hb, hml, hown, hts⟩ (c_X5_goes l D ad ck H.size Mp Mv Mb Me Md Mdo Mk Mm Mta Mkn Mti Mrl Mrr Mt Mn Mw_2 Mwl_3 Mws_4 Mf_5 Mpa_6 Mne_7 x1 _ hw) (cwV 1 hts gX5_finds_X5_goes rfl rfl rfl (by decide +kernel) ⟨Nat.le_of_ble_eq_true rfl, Nat.le_of_ble_eq_true rfl⟩) (gq_preV hK [0, 1, 2, 3, 4, 5, 6, 7, 8, 9, 10, 11, 12, 13] rfl hP hD [0, 1, 2, 3, 4, 5, 6, 7, 8, 9, 10, 11, 12, 13, 14] rfl rfl hnw 5 0 rfl rfl) rfl rfl hl.1 rfl (lv_room (Nat.le_of_ble_eq_true rfl)) dX5_finds_27 ⟨Nat.zero_le _, Nat.zero_le _⟩) hP hD hS hA [0, 1, 2, 3, 4, 5, 6, 7, 8, 9, 10, 11, 12, 13, 14] [] rfl rfl rfl (by decide) [0, 1, 2, 3, 4, 5, 6, 7, 8, 9, 10, 11, 12, 13, 14] rfl (fun _ => rfl) (fun r11 u_ H locs hw hP hD hS => ?_)
          obtain ⟨Mw_12, Mwl_13, Mws_14, Mf_15, Mpa_16, Mne_17⟩ := u_
          have hP : va_P D vwCl (wdM ad ck Mp Mv Mb Me Md Mdo Mk Mm Mta Mkn Mti Mrl Mrr Mt Mn Mw_12 Mwl_13 Mws_14 Mf_15 Mpa_16 Mne_17) H := hP
          have hD : va_D A (wdM ad ck Mp Mv Mb Me Md Mdo Mk Mm Mta Mkn Mti Mrl Mrr Mt Mn Mw_12 Mwl_13 Mws_14 Mf_15 Mpa_16 Mne_17) := hD
          refine lv_if_ne (tgt := 35) hx hb dX5_finds_30 (by decide) (fun c18 => ?_) (fun c18 => ?_)
          · have hw := gq_f c18 hw
            obtain ⟨v19, ev19⟩ : ∃ y : Int32, y = x1 + 1 := ⟨_, rfl⟩
            have hw := gq_at1 hw ev19
            refine lv_iinc (v := v19) (lv' := [(1, .int v19), (0, .ref (ad 16))]) hx hb dX5_finds_35 hl (k := 1) rfl (by rw [ev19]; rfl) (by decide) rfl (fun ls hl => ?_)
            refine lv_goto (tgt := 7) hx hb dX5_finds_38 (by decide) ?_
            exact ih v19 Mw_12 Mwl_13 Mws_14 Mf_15 Mpa_16 Mne_17 _ _ hw hP hD hS ls (lv_sub hl [1, 0] rfl)
          · have hw := gq_t c18 hw
            refine lv_iconst (v := 0) hx hb dX5_finds_33 (by decide) ?_
            exact hz 0 (Mw_12, Mwl_13, Mws_14, Mf_15, Mpa_16, Mne_17) _ _ _ _ dX5_finds_34 gq_zb0 hw hP hD hS
  obtain ⟨n, hw⟩ := hw
  exact hL7 n 0 Mw Mwl Mws 0 Mpa Mne _ _ hw hP hD hS ls (lv_sub hl [1, 0] rfl)

def wp_X5_ways  (Mp : Int32) (Mdo : Nat → Int32) (Mk : Nat → Int32) (Mw : Nat → Int32) (Mwl : Nat → Int32) (Mws : Nat → Int32) (Mf : Int32) (Mpa : Nat → Int32) (Mne : Nat → Int32) (post : Int32 → (Nat → Int32) → (Nat → Int32) → (Nat → Int32) → Int32 → (Nat → Int32) → (Nat → Int32) → Prop) : Prop :=
  wp_X5_finds Mp Mdo Mk Mw Mwl Mws Mf Mpa Mne (fun (r1 : Int32) (Mw_2 : Nat → Int32) (Mwl_3 : Nat → Int32) (Mws_4 : Nat → Int32) (Mf_5 : Int32) (Mpa_6 : Nat → Int32) (Mne_7 : Nat → Int32) => (if r1 = 0 then post (-1) Mw_2 Mwl_3 Mws_4 Mf_5 Mpa_6 Mne_7 else post Mf_5 Mw_2 Mwl_3 Mws_4 Mf_5 Mpa_6 Mne_7))

theorem iX5_ways_X5 : ∀ w ∈ wsX50, w ∈ wsX5_ways := by decide +kernel
set_option maxHeartbeats 4000000 in
set_option maxRecDepth 100000 in
theorem c_X5_ways (l : Launch) (D : va_G) (ad : Nat → Nat) (ck : Nat → ClassId) (sz : Nat) (Mp : Int32) (Mv : Int32) (Mb : Int32) (Me : Int32) (Md : Int32) (Mdo : Nat → Int32) (Mk : Nat → Int32) (Mm : Nat → Int32) (Mta : Nat → Int32) (Mkn : Nat → Int32) (Mti : Nat → Int32) (Mrl : Nat → Int32) (Mrr : Nat → Int32) (Mt : Nat → Int32) (Mn : Int32) (Mw : Nat → Int32) (Mwl : Nat → Int32) (Mws : Nat → Int32) (Mf : Int32) (Mpa : Nat → Int32) (Mne : Nat → Int32)  (post : Int32 → (Nat → Int32) → (Nat → Int32) → (Nat → Int32) → Int32 → (Nat → Int32) → (Nat → Int32) → Prop) (hw : wp_X5_ways Mp Mdo Mk Mw Mwl Mws Mf Mpa Mne post) : Met l yX5_ways wsX5_ways { frames := 2, cells := 0, slots := 0, locals := 47 } (va_Pc [.ref (ad 16)] (gq_pre D (tyM ck) (wdM ad ck Mp Mv Mb Me Md Mdo Mk Mm Mta Mkn Mti Mrl Mrr Mt Mn Mw Mwl Mws Mf Mpa Mne) sz)) (va_Qi (fun (r : Int32) (u : (Nat → Int32) × (Nat → Int32) × (Nat → Int32) × Int32 × (Nat → Int32) × (Nat → Int32)) => post r u.1 u.2.1 u.2.2.1 u.2.2.2.1 u.2.2.2.2.1 u.2.2.2.2.2) (gq_at D (va_A (wdM ad ck Mp Mv Mb Me Md Mdo Mk Mm Mta Mkn Mti Mrl Mrr Mt Mn Mw Mwl Mws Mf Mpa Mne) sz) (fun (u : (Nat → Int32) × (Nat → Int32) × (Nat → Int32) × Int32 × (Nat → Int32) × (Nat → Int32)) => (wdM ad ck Mp Mv Mb Me Md Mdo Mk Mm Mta Mkn Mti Mrl Mrr Mt Mn u.1 u.2.1 u.2.2.1 u.2.2.2.1 u.2.2.2.2.1 u.2.2.2.2.2))) (va_A (wdM ad ck Mp Mv Mb Me Md Mdo Mk Mm Mta Mkn Mti Mrl Mrr Mt Mn Mw Mwl Mws Mf Mpa Mne) sz)) 0 0 (va_A (wdM ad ck Mp Mv Mb Me Md Mdo Mk Mm Mta Mkn Mti Mrl Mrr Mt Mn Mw Mwl Mws Mf Mpa Mne) sz) := by
  refine gq_meti (cc := cX5_ways) (maxL := 1) (lv := [(0, .ref (ad 16))]) (by decide) rfl (Nat.le_of_ble_eq_true rfl) rfl ?_
  intro p e s m below meth c A Q ls H locs hx hb hml hown hts hnw hA hK hP hD hS hl hz
  refine lv_aload_n hx hb dX5_ways_0 rfl (lv_at hl 0 rfl) ?_
  refine gq_calli (wsN := fun u => (wdM ad ck Mp Mv Mb Me Md Mdo Mk Mm Mta Mkn Mti Mrl Mrr Mt Mn u.1 u.2.1 u.2.2.1 u.2.2.2.1 u.2.2.2.2.1 u.2.2.2.2.2)) (va_runV (As := []) (rest := []) ⟨hx, hb, hml, hown, hts⟩ (c_X5_finds l D ad ck H.size Mp Mv Mb Me Md Mdo Mk Mm Mta Mkn Mti Mrl Mrr Mt Mn Mw Mwl Mws Mf Mpa Mne  _ hw) (cwV 0 hts gX5_ways_X5_finds rfl rfl rfl (by decide +kernel) ⟨Nat.le_of_ble_eq_true rfl, Nat.le_of_ble_eq_true rfl⟩) (gq_preV hK [0, 1, 2, 3, 4, 5, 6, 7, 8, 9, 10, 11, 12, 13] rfl hP hD [0, 1, 2, 3, 4, 5, 6, 7, 8, 9, 10, 11, 12, 13, 14] rfl rfl hnw 5 0 rfl rfl) rfl rfl hl.1 rfl (lv_room (Nat.le_of_ble_eq_true rfl)) dX5_ways_1 ⟨Nat.zero_le _, Nat.zero_le _⟩) hP hD hS hA [0, 1, 2, 3, 4, 5, 6, 7, 8, 9, 10, 11, 12, 13, 14] [] rfl rfl rfl (by decide) [0, 1, 2, 3, 4, 5, 6, 7, 8, 9, 10, 11, 12, 13, 14] rfl (fun _ => rfl) (fun r1 u_ H locs hw hP hD hS => ?_)
  obtain ⟨Mw_2, Mwl_3, Mws_4, Mf_5, Mpa_6, Mne_7⟩ := u_
  have hP : va_P D vwCl (wdM ad ck Mp Mv Mb Me Md Mdo Mk Mm Mta Mkn Mti Mrl Mrr Mt Mn Mw_2 Mwl_3 Mws_4 Mf_5 Mpa_6 Mne_7) H := hP
  have hD : va_D A (wdM ad ck Mp Mv Mb Me Md Mdo Mk Mm Mta Mkn Mti Mrl Mrr Mt Mn Mw_2 Mwl_3 Mws_4 Mf_5 Mpa_6 Mne_7) := hD
  refine lv_if_eq (tgt := 14) hx hb dX5_ways_4 (by decide) (fun c8 => ?_) (fun c8 => ?_)
  · have hw := gq_t c8 hw
    refine lv_iconst (v := (-1)) hx hb dX5_ways_14 (by decide) ?_
    exact hz (-1) (Mw_2, Mwl_3, Mws_4, Mf_5, Mpa_6, Mne_7) _ _ _ _ dX5_ways_15 hw hP hD hS
  · have hw := gq_f c8 hw
    refine lv_aload_n hx hb dX5_ways_7 rfl (lv_at hl 0 rfl) ?_
    refine va_get (D := D) (ci := 5) (v := .int Mf_5) (C := RX5) (T := TX5) (N := 21) hx hb hts iX5_ways_X5 hown hK hP 0 rfl rfl 18 (by decide) (hts (.fieldLink RX5 86 "DecoyHouseModel" "ways" "I") (by decide +kernel)) (fun _ h9 => h9) rfl dX5_ways_8 ?_
    refine lv_goto (tgt := 15) hx hb dX5_ways_11 (by decide) ?_
    exact hz Mf_5 (Mw_2, Mwl_3, Mws_4, Mf_5, Mpa_6, Mne_7) _ _ _ _ dX5_ways_15 hw hP hD hS

def wp_X5_way (p1 : Int32) (p2 : Int32) (Mp : Int32) (Mdo : Nat → Int32) (Mk : Nat → Int32) (Mw : Nat → Int32) (Mwl : Nat → Int32) (Mws : Nat → Int32) (Mf : Int32) (Mpa : Nat → Int32) (Mne : Nat → Int32) (post : Int32 → (Nat → Int32) → (Nat → Int32) → (Nat → Int32) → Int32 → (Nat → Int32) → (Nat → Int32) → Prop) : Prop :=
  wp_X5_finds Mp Mdo Mk Mw Mwl Mws Mf Mpa Mne (fun (r1 : Int32) (Mw_2 : Nat → Int32) (Mwl_3 : Nat → Int32) (Mws_4 : Nat → Int32) (Mf_5 : Int32) (Mpa_6 : Nat → Int32) (Mne_7 : Nat → Int32) => (if r1 = 0 then post (-1) Mw_2 Mwl_3 Mws_4 Mf_5 Mpa_6 Mne_7 else wp_X5_isIn p1 0 (Mf_5 - 1) (fun (r9 : Int32) => (if r9 = 0 then post (-1) Mw_2 Mwl_3 Mws_4 Mf_5 Mpa_6 Mne_7 else vp_in p1 2000 ∧ wp_X5_isIn p2 0 ((Mwl_3 (p1).toNatClampNeg) - 1) (fun (r11 : Int32) => (if r11 = 0 then post (-1) Mw_2 Mwl_3 Mws_4 Mf_5 Mpa_6 Mne_7 else vp_in ((6 * p1) + p2) 12000 ∧ post (Mw_2 (((6 * p1) + p2)).toNatClampNeg) Mw_2 Mwl_3 Mws_4 Mf_5 Mpa_6 Mne_7))))))

theorem iX5_way_X5 : ∀ w ∈ wsX50, w ∈ wsX5_way := by decide +kernel
set_option maxHeartbeats 4000000 in
set_option maxRecDepth 100000 in
theorem c_X5_way (l : Launch) (D : va_G) (ad : Nat → Nat) (ck : Nat → ClassId) (sz : Nat) (Mp : Int32) (Mv : Int32) (Mb : Int32) (Me : Int32) (Md : Int32) (Mdo : Nat → Int32) (Mk : Nat → Int32) (Mm : Nat → Int32) (Mta : Nat → Int32) (Mkn : Nat → Int32) (Mti : Nat → Int32) (Mrl : Nat → Int32) (Mrr : Nat → Int32) (Mt : Nat → Int32) (Mn : Int32) (Mw : Nat → Int32) (Mwl : Nat → Int32) (Mws : Nat → Int32) (Mf : Int32) (Mpa : Nat → Int32) (Mne : Nat → Int32) (p1 : Int32) (p2 : Int32) (post : Int32 → (Nat → Int32) → (Nat → Int32) → (Nat → Int32) → Int32 → (Nat → Int32) → (Nat → Int32) → Prop) (hw : wp_X5_way p1 p2 Mp Mdo Mk Mw Mwl Mws Mf Mpa Mne post) : Met l yX5_way wsX5_way { frames := 2, cells := 0, slots := 0, locals := 47 } (va_Pc [.ref (ad 16), .int p1, .int p2] (gq_pre D (tyM ck) (wdM ad ck Mp Mv Mb Me Md Mdo Mk Mm Mta Mkn Mti Mrl Mrr Mt Mn Mw Mwl Mws Mf Mpa Mne) sz)) (va_Qi (fun (r : Int32) (u : (Nat → Int32) × (Nat → Int32) × (Nat → Int32) × Int32 × (Nat → Int32) × (Nat → Int32)) => post r u.1 u.2.1 u.2.2.1 u.2.2.2.1 u.2.2.2.2.1 u.2.2.2.2.2) (gq_at D (va_A (wdM ad ck Mp Mv Mb Me Md Mdo Mk Mm Mta Mkn Mti Mrl Mrr Mt Mn Mw Mwl Mws Mf Mpa Mne) sz) (fun (u : (Nat → Int32) × (Nat → Int32) × (Nat → Int32) × Int32 × (Nat → Int32) × (Nat → Int32)) => (wdM ad ck Mp Mv Mb Me Md Mdo Mk Mm Mta Mkn Mti Mrl Mrr Mt Mn u.1 u.2.1 u.2.2.1 u.2.2.2.1 u.2.2.2.2.1 u.2.2.2.2.2))) (va_A (wdM ad ck Mp Mv Mb Me Md Mdo Mk Mm Mta Mkn Mti Mrl Mrr Mt Mn Mw Mwl Mws Mf Mpa Mne) sz)) 0 0 (va_A (wdM ad ck Mp Mv Mb Me Md Mdo Mk Mm Mta Mkn Mti Mrl Mrr Mt Mn Mw Mwl Mws Mf Mpa Mne) sz) := by
  refine gq_meti (cc := cX5_way) (maxL := 3) (lv := [(0, .ref (ad 16)), (1, .int p1), (2, .int p2)]) (by decide) rfl (Nat.le_of_ble_eq_true rfl) rfl ?_
  intro p e s m below meth c A Q ls H locs hx hb hml hown hts hnw hA hK hP hD hS hl hz
  refine lv_aload_n hx hb dX5_way_0 rfl (lv_at hl 0 rfl) ?_
  refine gq_calli (wsN := fun u => (wdM ad ck Mp Mv Mb Me Md Mdo Mk Mm Mta Mkn Mti Mrl Mrr Mt Mn u.1 u.2.1 u.2.2.1 u.2.2.2.1 u.2.2.2.2.1 u.2.2.2.2.2)) (va_runV (As := []) (rest := []) ⟨hx, hb, hml, hown, hts⟩ (c_X5_finds l D ad ck H.size Mp Mv Mb Me Md Mdo Mk Mm Mta Mkn Mti Mrl Mrr Mt Mn Mw Mwl Mws Mf Mpa Mne  _ hw) (cwV 0 hts gX5_way_X5_finds rfl rfl rfl (by decide +kernel) ⟨Nat.le_of_ble_eq_true rfl, Nat.le_of_ble_eq_true rfl⟩) (gq_preV hK [0, 1, 2, 3, 4, 5, 6, 7, 8, 9, 10, 11, 12, 13] rfl hP hD [0, 1, 2, 3, 4, 5, 6, 7, 8, 9, 10, 11, 12, 13, 14] rfl rfl hnw 5 0 rfl rfl) rfl rfl hl.1 rfl (lv_room (Nat.le_of_ble_eq_true rfl)) dX5_way_1 ⟨Nat.zero_le _, Nat.zero_le _⟩) hP hD hS hA [0, 1, 2, 3, 4, 5, 6, 7, 8, 9, 10, 11, 12, 13, 14] [] rfl rfl rfl (by decide) [0, 1, 2, 3, 4, 5, 6, 7, 8, 9, 10, 11, 12, 13, 14] rfl (fun _ => rfl) (fun r1 u_ H locs hw hP hD hS => ?_)
  obtain ⟨Mw_2, Mwl_3, Mws_4, Mf_5, Mpa_6, Mne_7⟩ := u_
  have hP : va_P D vwCl (wdM ad ck Mp Mv Mb Me Md Mdo Mk Mm Mta Mkn Mti Mrl Mrr Mt Mn Mw_2 Mwl_3 Mws_4 Mf_5 Mpa_6 Mne_7) H := hP
  have hD : va_D A (wdM ad ck Mp Mv Mb Me Md Mdo Mk Mm Mta Mkn Mti Mrl Mrr Mt Mn Mw_2 Mwl_3 Mws_4 Mf_5 Mpa_6 Mne_7) := hD
  refine lv_if_eq (tgt := 51) hx hb dX5_way_4 (by decide) (fun c8 => ?_) (fun c8 => ?_)
  · have hw := gq_t c8 hw
    refine lv_iconst (v := (-1)) hx hb dX5_way_51 (by decide) ?_
    exact hz (-1) (Mw_2, Mwl_3, Mws_4, Mf_5, Mpa_6, Mne_7) _ _ _ _ dX5_way_52 hw hP hD hS
  · have hw := gq_f c8 hw
    refine lv_iload_n hx hb dX5_way_7 rfl (lv_at hl 1 rfl) ?_
    refine lv_iconst (v := 0) hx hb dX5_way_8 (by decide) ?_
    refine lv_aload_n hx hb dX5_way_9 rfl (lv_at hl 0 rfl) ?_
    refine va_get (D := D) (ci := 5) (v := .int Mf_5) (C := RX5) (T := TX5) (N := 21) hx hb hts iX5_way_X5 hown hK hP 0 rfl rfl 18 (by decide) (hts (.fieldLink RX5 86 "DecoyHouseModel" "ways" "I") (by decide +kernel)) (fun _ h9 => h9) rfl dX5_way_10 ?_
    refine lv_iconst (v := 1) hx hb dX5_way_13 (by decide) ?_
    refine lv_isub hx hb dX5_way_14 ?_
    refine gq_calli (wsN := fun _ => (wdM ad ck Mp Mv Mb Me Md Mdo Mk Mm Mta Mkn Mti Mrl Mrr Mt Mn Mw_2 Mwl_3 Mws_4 Mf_5 Mpa_6 Mne_7)) (va_runS (As := [.int p1, .int 0, .int (Mf_5 - 1)]) (rest := []) ⟨hx, hb, hml, hown, hts⟩ (c_X5_isIn l D H.size p1 0 (Mf_5 - 1) _ hw) (va_cwS 3 hts gX5_way_X5_isIn rfl rfl rfl (by decide +kernel) ⟨Nat.le_of_ble_eq_true rfl, Nat.le_of_ble_eq_true rfl⟩) (gq_preS hK [] rfl hP hD [] rfl rfl hnw) rfl rfl hl.1 rfl (lv_room (Nat.le_of_ble_eq_true rfl)) dX5_way_15 ⟨Nat.zero_le _, Nat.zero_le _⟩) hP hD hS hA [] [0, 1, 2, 3, 4, 5, 6, 7, 8, 9, 10, 11, 12, 13, 14] rfl rfl rfl (by decide) [0, 1, 2, 3, 4, 5, 6, 7, 8, 9, 10, 11, 12, 13, 14] rfl (fun _ => rfl) (fun r9 _ H locs hw hP hD hS => ?_)
    refine lv_if_eq (tgt := 51) hx hb dX5_way_18 (by decide) (fun c10 => ?_) (fun c10 => ?_)
    · have hw := gq_t c10 hw
      refine lv_iconst (v := (-1)) hx hb dX5_way_51 (by decide) ?_
      exact hz (-1) (Mw_2, Mwl_3, Mws_4, Mf_5, Mpa_6, Mne_7) _ _ _ _ dX5_way_52 hw hP hD hS
    · have hw := gq_f c10 hw
      refine lv_iload_n hx hb dX5_way_21 rfl (lv_at hl 2 rfl) ?_
      refine lv_iconst (v := 0) hx hb dX5_way_22 (by decide) ?_
      refine lv_aload_n hx hb dX5_way_23 rfl (lv_at hl 0 rfl) ?_
      refine va_get (D := D) (ci := 5) (v := .ref (ad 27)) (C := RX5) (T := TX5) (N := 21) hx hb hts iX5_way_X5 hown hK hP 0 rfl rfl 16 (by decide) (hts (.fieldLink RX5 51 "DecoyHouseModel" "wayLong" "[I") (by decide +kernel)) (fun _ h9 => h9) rfl dX5_way_24 ?_
      refine lv_iload_n hx hb dX5_way_27 rfl (lv_at hl 1 rfl) ?_
      refine va_iald hx hb hK hP 11 10 rfl rfl hw.1 dX5_way_28 ?_
      have hw := hw.2
      refine lv_iconst (v := 1) hx hb dX5_way_29 (by decide) ?_
      refine lv_isub hx hb dX5_way_30 ?_
      refine gq_calli (wsN := fun _ => (wdM ad ck Mp Mv Mb Me Md Mdo Mk Mm Mta Mkn Mti Mrl Mrr Mt Mn Mw_2 Mwl_3 Mws_4 Mf_5 Mpa_6 Mne_7)) (va_runS (As := [.int p2, .int 0, .int ((Mwl_3 (p1).toNatClampNeg) - 1)]) (rest := []) ⟨hx, hb, hml, hown, hts⟩ (c_X5_isIn l D H.size p2 0 ((Mwl_3 (p1).toNatClampNeg) - 1) _ hw) (va_cwS 3 hts gX5_way_X5_isIn rfl rfl rfl (by decide +kernel) ⟨Nat.le_of_ble_eq_true rfl, Nat.le_of_ble_eq_true rfl⟩) (gq_preS hK [] rfl hP hD [] rfl rfl hnw) rfl rfl hl.1 rfl (lv_room (Nat.le_of_ble_eq_true rfl)) dX5_way_31 ⟨Nat.zero_le _, Nat.zero_le _⟩) hP hD hS hA [] [0, 1, 2, 3, 4, 5, 6, 7, 8, 9, 10, 11, 12, 13, 14] rfl rfl rfl (by decide) [0, 1, 2, 3, 4, 5, 6, 7, 8, 9, 10, 11, 12, 13, 14] rfl (fun _ => rfl) (fun r11 _ H locs hw hP hD hS => ?_)
      refine lv_if_eq (tgt := 51) hx hb dX5_way_34 (by decide) (fun c12 => ?_) (fun c12 => ?_)
      · have hw := gq_t c12 hw
        refine lv_iconst (v := (-1)) hx hb dX5_way_51 (by decide) ?_
        exact hz (-1) (Mw_2, Mwl_3, Mws_4, Mf_5, Mpa_6, Mne_7) _ _ _ _ dX5_way_52 hw hP hD hS
      · have hw := gq_f c12 hw
        refine lv_aload_n hx hb dX5_way_37 rfl (lv_at hl 0 rfl) ?_
        refine va_get (D := D) (ci := 5) (v := .ref (ad 26)) (C := RX5) (T := TX5) (N := 21) hx hb hts iX5_way_X5 hown hK hP 0 rfl rfl 15 (by decide) (hts (.fieldLink RX5 48 "DecoyHouseModel" "way" "[I") (by decide +kernel)) (fun _ h9 => h9) rfl dX5_way_38 ?_
        refine lv_bipush (v := 6) hx hb dX5_way_41 (by decide) ?_
        refine lv_iload_n hx hb dX5_way_43 rfl (lv_at hl 1 rfl) ?_
        refine lv_imul hx hb dX5_way_44 ?_
        refine lv_iload_n hx hb dX5_way_45 rfl (lv_at hl 2 rfl) ?_
        refine lv_iadd hx hb dX5_way_46 ?_
        refine va_iald hx hb hK hP 10 9 rfl rfl hw.1 dX5_way_47 ?_
        have hw := hw.2
        refine lv_goto (tgt := 52) hx hb dX5_way_48 (by decide) ?_
        exact hz (Mw_2 (((6 * p1) + p2)).toNatClampNeg) (Mw_2, Mwl_3, Mws_4, Mf_5, Mpa_6, Mne_7) _ _ _ _ dX5_way_52 hw hP hD hS

def wp_X5_isSet (p1 : Int32) (Mp : Int32) (post : Int32 → Prop) : Prop :=
  wp_X5_isIn p1 0 (((1 : Int32) <<< (Mp &&& 31)) - 1) (fun (r1 : Int32) => gq_zb r1 ∧ post r1)

theorem iX5_isSet_X5 : ∀ w ∈ wsX50, w ∈ wsX5_isSet := by decide +kernel
set_option maxHeartbeats 4000000 in
set_option maxRecDepth 100000 in
theorem c_X5_isSet (l : Launch) (D : va_G) (ad : Nat → Nat) (ck : Nat → ClassId) (sz : Nat) (Mp : Int32) (Mv : Int32) (Mb : Int32) (Me : Int32) (Md : Int32) (Mdo : Nat → Int32) (Mk : Nat → Int32) (Mm : Nat → Int32) (Mta : Nat → Int32) (Mkn : Nat → Int32) (Mti : Nat → Int32) (Mrl : Nat → Int32) (Mrr : Nat → Int32) (Mt : Nat → Int32) (Mn : Int32) (Mw : Nat → Int32) (Mwl : Nat → Int32) (Mws : Nat → Int32) (Mf : Int32) (Mpa : Nat → Int32) (Mne : Nat → Int32) (p1 : Int32) (post : Int32 → Prop) (hw : wp_X5_isSet p1 Mp post) : Met l yX5_isSet wsX5_isSet { frames := 1, cells := 0, slots := 0, locals := 22 } (va_Pc [.ref (ad 16), .int p1] (gq_pre D (tyM ck) (wdM ad ck Mp Mv Mb Me Md Mdo Mk Mm Mta Mkn Mti Mrl Mrr Mt Mn Mw Mwl Mws Mf Mpa Mne) sz)) (va_Qi (fun (r : Int32) (_ : Unit) => post r ) (gq_at D (va_A (wdM ad ck Mp Mv Mb Me Md Mdo Mk Mm Mta Mkn Mti Mrl Mrr Mt Mn Mw Mwl Mws Mf Mpa Mne) sz) (fun (_ : Unit) => (wdM ad ck Mp Mv Mb Me Md Mdo Mk Mm Mta Mkn Mti Mrl Mrr Mt Mn Mw Mwl Mws Mf Mpa Mne))) (va_A (wdM ad ck Mp Mv Mb Me Md Mdo Mk Mm Mta Mkn Mti Mrl Mrr Mt Mn Mw Mwl Mws Mf Mpa Mne) sz)) 0 0 (va_A (wdM ad ck Mp Mv Mb Me Md Mdo Mk Mm Mta Mkn Mti Mrl Mrr Mt Mn Mw Mwl Mws Mf Mpa Mne) sz) := by
  refine gq_metz (cc := cX5_isSet) (maxL := 2) (lv := [(0, .ref (ad 16)), (1, .int p1)]) (by decide) rfl (Nat.le_of_ble_eq_true rfl) rfl ?_
  intro p e s m below meth c A Q ls H locs hx hb hml hown hts hnw hA hK hP hD hS hl hz
  refine lv_iload_n hx hb dX5_isSet_0 rfl (lv_at hl 1 rfl) ?_
  refine lv_iconst (v := 0) hx hb dX5_isSet_1 (by decide) ?_
  refine lv_iconst (v := 1) hx hb dX5_isSet_2 (by decide) ?_
  refine lv_aload_n hx hb dX5_isSet_3 rfl (lv_at hl 0 rfl) ?_
  refine va_get (D := D) (ci := 5) (v := .int Mp) (C := RX5) (T := TX5) (N := 21) hx hb hts iX5_isSet_X5 hown hK hP 0 rfl rfl 0 (by decide) (hts (.fieldLink RX5 7 "DecoyHouseModel" "places" "I") (by decide +kernel)) (fun _ h9 => h9) rfl dX5_isSet_4 ?_
  refine lv_ishl hx hb dX5_isSet_7 ?_
  refine lv_iconst (v := 1) hx hb dX5_isSet_8 (by decide) ?_
  refine lv_isub hx hb dX5_isSet_9 ?_
  refine gq_calli (wsN := fun _ => (wdM ad ck Mp Mv Mb Me Md Mdo Mk Mm Mta Mkn Mti Mrl Mrr Mt Mn Mw Mwl Mws Mf Mpa Mne)) (va_runS (As := [.int p1, .int 0, .int (((1 : Int32) <<< (Mp &&& 31)) - 1)]) (rest := []) ⟨hx, hb, hml, hown, hts⟩ (c_X5_isIn l D H.size p1 0 (((1 : Int32) <<< (Mp &&& 31)) - 1) _ hw) (va_cwS 3 hts gX5_isSet_X5_isIn rfl rfl rfl (by decide +kernel) ⟨Nat.le_of_ble_eq_true rfl, Nat.le_of_ble_eq_true rfl⟩) (gq_preS hK [] rfl hP hD [] rfl rfl hnw) rfl rfl hl.1 rfl (lv_room (Nat.le_of_ble_eq_true rfl)) dX5_isSet_10 ⟨Nat.zero_le _, Nat.zero_le _⟩) hP hD hS hA [] [0, 1, 2, 3, 4, 5, 6, 7, 8, 9, 10, 11, 12, 13, 14] rfl rfl rfl (by decide) [0, 1, 2, 3, 4, 5, 6, 7, 8, 9, 10, 11, 12, 13, 14] rfl (fun _ => rfl) (fun r1 _ H locs hw hP hD hS => ?_)
  exact hz r1 () _ _ _ _ dX5_isSet_13 hw.1 hw.2 hP hD hS

def wl_X5_touchedBy_4 (p1 : Int32) (Mws : Nat → Int32) (Mf : Int32)   (post : Int32 → Prop) : Nat → Int32 → Int32 → Prop
  | 0, _, _ => False
  | n4 + 1, x1, x2 => (if Mf ≤ x2 then post x1 else vp_in x2 2000 ∧ (if ((Mws (x2).toNatClampNeg) &&& p1) = 0 then gq_nm (x1 + 0) (fun v5 : Int32 => gq_nm (x2 + 1) (fun v6 : Int32 => wl_X5_touchedBy_4 p1 Mws Mf post n4 v5 v6)) else gq_nm (x1 + 1) (fun v7 : Int32 => gq_nm (x2 + 1) (fun v8 : Int32 => wl_X5_touchedBy_4 p1 Mws Mf post n4 v7 v8))))

def wp_X5_touchedBy (p1 : Int32) (Mws : Nat → Int32) (Mf : Int32) (post : Int32 → Prop) : Prop :=
  ∃ k4, wl_X5_touchedBy_4 p1 Mws Mf post k4 0 0

theorem iX5_touchedBy_X5 : ∀ w ∈ wsX50, w ∈ wsX5_touchedBy := by decide +kernel
set_option maxHeartbeats 4000000 in
set_option maxRecDepth 100000 in
theorem c_X5_touchedBy (l : Launch) (D : va_G) (ad : Nat → Nat) (ck : Nat → ClassId) (sz : Nat) (Mp : Int32) (Mv : Int32) (Mb : Int32) (Me : Int32) (Md : Int32) (Mdo : Nat → Int32) (Mk : Nat → Int32) (Mm : Nat → Int32) (Mta : Nat → Int32) (Mkn : Nat → Int32) (Mti : Nat → Int32) (Mrl : Nat → Int32) (Mrr : Nat → Int32) (Mt : Nat → Int32) (Mn : Int32) (Mw : Nat → Int32) (Mwl : Nat → Int32) (Mws : Nat → Int32) (Mf : Int32) (Mpa : Nat → Int32) (Mne : Nat → Int32) (p1 : Int32) (post : Int32 → Prop) (hw : wp_X5_touchedBy p1 Mws Mf post) : Met l yX5_touchedBy wsX5_touchedBy { frames := 0, cells := 0, slots := 0, locals := 0 } (va_Pc [.ref (ad 16), .int p1] (gq_pre D (tyM ck) (wdM ad ck Mp Mv Mb Me Md Mdo Mk Mm Mta Mkn Mti Mrl Mrr Mt Mn Mw Mwl Mws Mf Mpa Mne) sz)) (va_Qi (fun (r : Int32) (_ : Unit) => post r ) (gq_at D (va_A (wdM ad ck Mp Mv Mb Me Md Mdo Mk Mm Mta Mkn Mti Mrl Mrr Mt Mn Mw Mwl Mws Mf Mpa Mne) sz) (fun (_ : Unit) => (wdM ad ck Mp Mv Mb Me Md Mdo Mk Mm Mta Mkn Mti Mrl Mrr Mt Mn Mw Mwl Mws Mf Mpa Mne))) (va_A (wdM ad ck Mp Mv Mb Me Md Mdo Mk Mm Mta Mkn Mti Mrl Mrr Mt Mn Mw Mwl Mws Mf Mpa Mne) sz)) 0 0 (va_A (wdM ad ck Mp Mv Mb Me Md Mdo Mk Mm Mta Mkn Mti Mrl Mrr Mt Mn Mw Mwl Mws Mf Mpa Mne) sz) := by
  refine gq_meti (cc := cX5_touchedBy) (maxL := 4) (lv := [(0, .ref (ad 16)), (1, .int p1)]) (by decide) rfl (Nat.le_of_ble_eq_true rfl) rfl ?_
  intro p e s m below meth c A Q ls H locs hx hb hml hown hts hnw hA hK hP hD hS hl hz
  refine lv_iconst (v := 0) hx hb dX5_touchedBy_0 (by decide) ?_
  refine lv_istore_n (lv' := [(2, .int 0), (0, .ref (ad 16)), (1, .int p1)]) hx hb dX5_touchedBy_1 rfl hl (by decide) rfl (fun ls hl => ?_)
  refine lv_iconst (v := 0) hx hb dX5_touchedBy_2 (by decide) ?_
  refine lv_istore_n (lv' := [(3, .int 0), (2, .int 0), (0, .ref (ad 16)), (1, .int p1)]) hx hb dX5_touchedBy_3 rfl hl (by decide) rfl (fun ls hl => ?_)
  have hL4 : ∀ (n : Nat) (x1 : Int32) (x2 : Int32) (H : Heap) (locs : List Loc), wl_X5_touchedBy_4 p1 Mws Mf post n x1 x2 → va_P D vwCl (wdM ad ck Mp Mv Mb Me Md Mdo Mk Mm Mta Mkn Mti Mrl Mrr Mt Mn Mw Mwl Mws Mf Mpa Mne) H → va_D A (wdM ad ck Mp Mv Mb Me Md Mdo Mk Mm Mta Mkn Mti Mrl Mrr Mt Mn Mw Mwl Mws Mf Mpa Mne) → va_S A s.heap H locs → ∀ ls : Array Slot, lv_has ls 4 [(0, .ref (ad 16)), (1, .int p1), (2, .int x1), (3, .int x2)] → W p l e { frames := 0, cells := 0, slots := 0, locals := 0 } s m ([.ref (ad 16), .int p1] : List Value).toArray below meth c H locs 0 0 Q (F0 m 4 ls []) := by
    intro n
    induction n with
    | zero =>
      intro x1 x2 H locs hw
      exact hw.elim
    | succ n ih =>
      intro x1 x2 H locs hw hP hD hS ls hl
      refine lv_iload_n hx hb dX5_touchedBy_4 rfl (lv_at hl 3 rfl) ?_
      refine lv_aload_n hx hb dX5_touchedBy_5 rfl (lv_at hl 0 rfl) ?_
      refine va_get (D := D) (ci := 5) (v := .int Mf) (C := RX5) (T := TX5) (N := 21) hx hb hts iX5_touchedBy_X5 hown hK hP 0 rfl rfl 18 (by decide) (hts (.fieldLink RX5 86 "DecoyHouseModel" "ways" "I") (by decide +kernel)) (fun _ h9 => h9) rfl dX5_touchedBy_6 ?_
      refine lv_icmp_ge (tgt := 37) hx hb dX5_touchedBy_9 (by decide) (fun c3 => ?_) (fun c3 => ?_)
      · have hw := gq_t c3 hw
        refine lv_iload_n hx hb dX5_touchedBy_37 rfl (lv_at hl 2 rfl) ?_
        exact hz x1 () _ _ _ _ dX5_touchedBy_38 hw hP hD hS
      · have hw := gq_f c3 hw
        refine lv_iload_n hx hb dX5_touchedBy_12 rfl (lv_at hl 2 rfl) ?_
        refine lv_aload_n hx hb dX5_touchedBy_13 rfl (lv_at hl 0 rfl) ?_
        refine va_get (D := D) (ci := 5) (v := .ref (ad 28)) (C := RX5) (T := TX5) (N := 21) hx hb hts iX5_touchedBy_X5 hown hK hP 0 rfl rfl 17 (by decide) (hts (.fieldLink RX5 54 "DecoyHouseModel" "waySet" "[I") (by decide +kernel)) (fun _ h9 => h9) rfl dX5_touchedBy_14 ?_
        refine lv_iload_n hx hb dX5_touchedBy_17 rfl (lv_at hl 3 rfl) ?_
        refine va_iald hx hb hK hP 12 11 rfl rfl hw.1 dX5_touchedBy_18 ?_
        have hw := hw.2
        refine lv_iload_n hx hb dX5_touchedBy_19 rfl (lv_at hl 1 rfl) ?_
        refine lv_iand hx hb dX5_touchedBy_20 ?_
        refine lv_if_eq (tgt := 28) hx hb dX5_touchedBy_21 (by decide) (fun c4 => ?_) (fun c4 => ?_)
        · have hw := gq_t c4 hw
          refine lv_iconst (v := 0) hx hb dX5_touchedBy_28 (by decide) ?_
          refine lv_iadd hx hb dX5_touchedBy_29 ?_
          refine lv_topi (fun v5 ev5 => ?_)
          have hw := gq_at1 hw ev5
          refine lv_istore_n (lv' := [(2, .int v5), (0, .ref (ad 16)), (1, .int p1), (3, .int x2)]) hx hb dX5_touchedBy_30 rfl hl (by decide) rfl (fun ls hl => ?_)
          obtain ⟨v6, ev6⟩ : ∃ y : Int32, y = x2 + 1 := ⟨_, rfl⟩
          have hw := gq_at1 hw ev6
          refine lv_iinc (v := v6) (lv' := [(3, .int v6), (2, .int v5), (0, .ref (ad 16)), (1, .int p1)]) hx hb dX5_touchedBy_31 hl (k := 3) rfl (by rw [ev6]; rfl) (by decide) rfl (fun ls hl => ?_)
          refine lv_goto (tgt := 4) hx hb dX5_touchedBy_34 (by decide) ?_
          exact ih v5 v6 _ _ hw hP hD hS ls (lv_sub hl [2, 3, 1, 0] rfl)
        · have hw := gq_f c4 hw
          refine lv_iconst (v := 1) hx hb dX5_touchedBy_24 (by decide) ?_
          refine lv_goto (tgt := 29) hx hb dX5_touchedBy_25 (by decide) ?_
          refine lv_iadd hx hb dX5_touchedBy_29 ?_
          refine lv_topi (fun v7 ev7 => ?_)
          have hw := gq_at1 hw ev7
          refine lv_istore_n (lv' := [(2, .int v7), (0, .ref (ad 16)), (1, .int p1), (3, .int x2)]) hx hb dX5_touchedBy_30 rfl hl (by decide) rfl (fun ls hl => ?_)
          obtain ⟨v8, ev8⟩ : ∃ y : Int32, y = x2 + 1 := ⟨_, rfl⟩
          have hw := gq_at1 hw ev8
          refine lv_iinc (v := v8) (lv' := [(3, .int v8), (2, .int v7), (0, .ref (ad 16)), (1, .int p1)]) hx hb dX5_touchedBy_31 hl (k := 3) rfl (by rw [ev8]; rfl) (by decide) rfl (fun ls hl => ?_)
          refine lv_goto (tgt := 4) hx hb dX5_touchedBy_34 (by decide) ?_
          exact ih v7 v8 _ _ hw hP hD hS ls (lv_sub hl [2, 3, 1, 0] rfl)
  obtain ⟨n, hw⟩ := hw
  exact hL4 n 0 0 _ _ hw hP hD hS ls (lv_sub hl [2, 3, 1, 0] rfl)

def wp_X5_touched (p1 : Int32) (Mp : Int32) (Mdo : Nat → Int32) (Mk : Nat → Int32) (Mw : Nat → Int32) (Mwl : Nat → Int32) (Mws : Nat → Int32) (Mf : Int32) (Mpa : Nat → Int32) (Mne : Nat → Int32) (post : Int32 → (Nat → Int32) → (Nat → Int32) → (Nat → Int32) → Int32 → (Nat → Int32) → (Nat → Int32) → Prop) : Prop :=
  wp_X5_isSet p1 Mp (fun (r1 : Int32) => (if r1 = 0 then post (-1) Mw Mwl Mws Mf Mpa Mne else wp_X5_finds Mp Mdo Mk Mw Mwl Mws Mf Mpa Mne (fun (r3 : Int32) (Mw_4 : Nat → Int32) (Mwl_5 : Nat → Int32) (Mws_6 : Nat → Int32) (Mf_7 : Int32) (Mpa_8 : Nat → Int32) (Mne_9 : Nat → Int32) => (if r3 = 0 then post (-1) Mw_4 Mwl_5 Mws_6 Mf_7 Mpa_8 Mne_9 else wp_X5_touchedBy p1 Mws_6 Mf_7 (fun (r11 : Int32) => post r11 Mw_4 Mwl_5 Mws_6 Mf_7 Mpa_8 Mne_9)))))

set_option maxHeartbeats 4000000 in
set_option maxRecDepth 100000 in
theorem c_X5_touched (l : Launch) (D : va_G) (ad : Nat → Nat) (ck : Nat → ClassId) (sz : Nat) (Mp : Int32) (Mv : Int32) (Mb : Int32) (Me : Int32) (Md : Int32) (Mdo : Nat → Int32) (Mk : Nat → Int32) (Mm : Nat → Int32) (Mta : Nat → Int32) (Mkn : Nat → Int32) (Mti : Nat → Int32) (Mrl : Nat → Int32) (Mrr : Nat → Int32) (Mt : Nat → Int32) (Mn : Int32) (Mw : Nat → Int32) (Mwl : Nat → Int32) (Mws : Nat → Int32) (Mf : Int32) (Mpa : Nat → Int32) (Mne : Nat → Int32) (p1 : Int32) (post : Int32 → (Nat → Int32) → (Nat → Int32) → (Nat → Int32) → Int32 → (Nat → Int32) → (Nat → Int32) → Prop) (hw : wp_X5_touched p1 Mp Mdo Mk Mw Mwl Mws Mf Mpa Mne post) : Met l yX5_touched wsX5_touched { frames := 2, cells := 0, slots := 0, locals := 47 } (va_Pc [.ref (ad 16), .int p1] (gq_pre D (tyM ck) (wdM ad ck Mp Mv Mb Me Md Mdo Mk Mm Mta Mkn Mti Mrl Mrr Mt Mn Mw Mwl Mws Mf Mpa Mne) sz)) (va_Qi (fun (r : Int32) (u : (Nat → Int32) × (Nat → Int32) × (Nat → Int32) × Int32 × (Nat → Int32) × (Nat → Int32)) => post r u.1 u.2.1 u.2.2.1 u.2.2.2.1 u.2.2.2.2.1 u.2.2.2.2.2) (gq_at D (va_A (wdM ad ck Mp Mv Mb Me Md Mdo Mk Mm Mta Mkn Mti Mrl Mrr Mt Mn Mw Mwl Mws Mf Mpa Mne) sz) (fun (u : (Nat → Int32) × (Nat → Int32) × (Nat → Int32) × Int32 × (Nat → Int32) × (Nat → Int32)) => (wdM ad ck Mp Mv Mb Me Md Mdo Mk Mm Mta Mkn Mti Mrl Mrr Mt Mn u.1 u.2.1 u.2.2.1 u.2.2.2.1 u.2.2.2.2.1 u.2.2.2.2.2))) (va_A (wdM ad ck Mp Mv Mb Me Md Mdo Mk Mm Mta Mkn Mti Mrl Mrr Mt Mn Mw Mwl Mws Mf Mpa Mne) sz)) 0 0 (va_A (wdM ad ck Mp Mv Mb Me Md Mdo Mk Mm Mta Mkn Mti Mrl Mrr Mt Mn Mw Mwl Mws Mf Mpa Mne) sz) := by
  refine gq_meti (cc := cX5_touched) (maxL := 2) (lv := [(0, .ref (ad 16)), (1, .int p1)]) (by decide) rfl (Nat.le_of_ble_eq_true rfl) rfl ?_
  intro p e s m below meth c A Q ls H locs hx hb hml hown hts hnw hA hK hP hD hS hl hz
  refine lv_aload_n hx hb dX5_touched_0 rfl (lv_at hl 0 rfl) ?_
  refine lv_iload_n hx hb dX5_touched_1 rfl (lv_at hl 1 rfl) ?_
  refine gq_calli (wsN := fun _ => (wdM ad ck Mp Mv Mb Me Md Mdo Mk Mm Mta Mkn Mti Mrl Mrr Mt Mn Mw Mwl Mws Mf Mpa Mne)) (va_runV (As := [.int p1]) (rest := []) ⟨hx, hb, hml, hown, hts⟩ (c_X5_isSet l D ad ck H.size Mp Mv Mb Me Md Mdo Mk Mm Mta Mkn Mti Mrl Mrr Mt Mn Mw Mwl Mws Mf Mpa Mne p1 _ hw) (cwV 1 hts gX5_touched_X5_isSet rfl rfl rfl (by decide +kernel) ⟨Nat.le_of_ble_eq_true rfl, Nat.le_of_ble_eq_true rfl⟩) (gq_preV hK [0, 1, 2, 3, 4, 5, 6, 7, 8, 9, 10, 11, 12, 13] rfl hP hD [0, 1, 2, 3, 4, 5, 6, 7, 8, 9, 10, 11, 12, 13, 14] rfl rfl hnw 5 0 rfl rfl) rfl rfl hl.1 rfl (lv_room (Nat.le_of_ble_eq_true rfl)) dX5_touched_2 ⟨Nat.zero_le _, Nat.zero_le _⟩) hP hD hS hA [0, 1, 2, 3, 4, 5, 6, 7, 8, 9, 10, 11, 12, 13, 14] [] rfl rfl rfl (by decide) [0, 1, 2, 3, 4, 5, 6, 7, 8, 9, 10, 11, 12, 13, 14] rfl (fun _ => rfl) (fun r1 _ H locs hw hP hD hS => ?_)
  refine lv_if_eq (tgt := 23) hx hb dX5_touched_5 (by decide) (fun c2 => ?_) (fun c2 => ?_)
  · have hw := gq_t c2 hw
    refine lv_iconst (v := (-1)) hx hb dX5_touched_23 (by decide) ?_
    exact hz (-1) (Mw, Mwl, Mws, Mf, Mpa, Mne) _ _ _ _ dX5_touched_24 hw hP hD hS
  · have hw := gq_f c2 hw
    refine lv_aload_n hx hb dX5_touched_8 rfl (lv_at hl 0 rfl) ?_
    refine gq_calli (wsN := fun u => (wdM ad ck Mp Mv Mb Me Md Mdo Mk Mm Mta Mkn Mti Mrl Mrr Mt Mn u.1 u.2.1 u.2.2.1 u.2.2.2.1 u.2.2.2.2.1 u.2.2.2.2.2)) (va_runV (As := []) (rest := []) ⟨hx, hb, hml, hown, hts⟩ (c_X5_finds l D ad ck H.size Mp Mv Mb Me Md Mdo Mk Mm Mta Mkn Mti Mrl Mrr Mt Mn Mw Mwl Mws Mf Mpa Mne  _ hw) (cwV 0 hts gX5_touched_X5_finds rfl rfl rfl (by decide +kernel) ⟨Nat.le_of_ble_eq_true rfl, Nat.le_of_ble_eq_true rfl⟩) (gq_preV hK [0, 1, 2, 3, 4, 5, 6, 7, 8, 9, 10, 11, 12, 13] rfl hP hD [0, 1, 2, 3, 4, 5, 6, 7, 8, 9, 10, 11, 12, 13, 14] rfl rfl hnw 5 0 rfl rfl) rfl rfl hl.1 rfl (lv_room (Nat.le_of_ble_eq_true rfl)) dX5_touched_9 ⟨Nat.zero_le _, Nat.zero_le _⟩) hP hD hS hA [0, 1, 2, 3, 4, 5, 6, 7, 8, 9, 10, 11, 12, 13, 14] [] rfl rfl rfl (by decide) [0, 1, 2, 3, 4, 5, 6, 7, 8, 9, 10, 11, 12, 13, 14] rfl (fun _ => rfl) (fun r3 u_ H locs hw hP hD hS => ?_)
    obtain ⟨Mw_4, Mwl_5, Mws_6, Mf_7, Mpa_8, Mne_9⟩ := u_
    have hP : va_P D vwCl (wdM ad ck Mp Mv Mb Me Md Mdo Mk Mm Mta Mkn Mti Mrl Mrr Mt Mn Mw_4 Mwl_5 Mws_6 Mf_7 Mpa_8 Mne_9) H := hP
    have hD : va_D A (wdM ad ck Mp Mv Mb Me Md Mdo Mk Mm Mta Mkn Mti Mrl Mrr Mt Mn Mw_4 Mwl_5 Mws_6 Mf_7 Mpa_8 Mne_9) := hD
    refine lv_if_eq (tgt := 23) hx hb dX5_touched_12 (by decide) (fun c10 => ?_) (fun c10 => ?_)
    · have hw := gq_t c10 hw
      refine lv_iconst (v := (-1)) hx hb dX5_touched_23 (by decide) ?_
      exact hz (-1) (Mw_4, Mwl_5, Mws_6, Mf_7, Mpa_8, Mne_9) _ _ _ _ dX5_touched_24 hw hP hD hS
    · have hw := gq_f c10 hw
      refine lv_aload_n hx hb dX5_touched_15 rfl (lv_at hl 0 rfl) ?_
      refine lv_iload_n hx hb dX5_touched_16 rfl (lv_at hl 1 rfl) ?_
      refine gq_calli (wsN := fun _ => (wdM ad ck Mp Mv Mb Me Md Mdo Mk Mm Mta Mkn Mti Mrl Mrr Mt Mn Mw_4 Mwl_5 Mws_6 Mf_7 Mpa_8 Mne_9)) (va_runV (As := [.int p1]) (rest := []) ⟨hx, hb, hml, hown, hts⟩ (c_X5_touchedBy l D ad ck H.size Mp Mv Mb Me Md Mdo Mk Mm Mta Mkn Mti Mrl Mrr Mt Mn Mw_4 Mwl_5 Mws_6 Mf_7 Mpa_8 Mne_9 p1 _ hw) (cwV 1 hts gX5_touched_X5_touchedBy rfl rfl rfl (by decide +kernel) ⟨Nat.le_of_ble_eq_true rfl, Nat.le_of_ble_eq_true rfl⟩) (gq_preV hK [0, 1, 2, 3, 4, 5, 6, 7, 8, 9, 10, 11, 12, 13] rfl hP hD [0, 1, 2, 3, 4, 5, 6, 7, 8, 9, 10, 11, 12, 13, 14] rfl rfl hnw 5 0 rfl rfl) rfl rfl hl.1 rfl (lv_room (Nat.le_of_ble_eq_true rfl)) dX5_touched_17 ⟨Nat.zero_le _, Nat.zero_le _⟩) hP hD hS hA [0, 1, 2, 3, 4, 5, 6, 7, 8, 9, 10, 11, 12, 13, 14] [] rfl rfl rfl (by decide) [0, 1, 2, 3, 4, 5, 6, 7, 8, 9, 10, 11, 12, 13, 14] rfl (fun _ => rfl) (fun r11 _ H locs hw hP hD hS => ?_)
      refine lv_goto (tgt := 24) hx hb dX5_touched_20 (by decide) ?_
      exact hz r11 (Mw_4, Mwl_5, Mws_6, Mf_7, Mpa_8, Mne_9) _ _ _ _ dX5_touched_24 hw hP hD hS

def wl_X5_honestOf_13 (p1 : Int32) (Mti : Nat → Int32) (Mrl : Nat → Int32) (Mrr : Nat → Int32) (x2 : Int32)  (X63 : Int32 → Int32 → Prop) : Nat → Int32 → Int32 → Prop
  | 0, _, _ => False
  | n13 + 1, x4, x5 => vp_in x2 6 ∧ (if (Mrl (x2).toNatClampNeg) ≤ x5 then X63 x4 x5 else vp_in ((8 * x2) + x5) 48 ∧ (if ((p1 >>> ((Mrr (((8 * x2) + x5)).toNatClampNeg) &&& 31)) &&& 1) = 1 then vp_in x2 6 ∧ gq_nm (x4 + (Mti (x2).toNatClampNeg)) (fun v10 : Int32 => gq_nm (x5 + 1) (fun v11 : Int32 => wl_X5_honestOf_13 p1 Mti Mrl Mrr x2 X63 n13 v10 v11)) else gq_nm (x4 + 0) (fun v8 : Int32 => gq_nm (x5 + 1) (fun v9 : Int32 => wl_X5_honestOf_13 p1 Mti Mrl Mrr x2 X63 n13 v8 v9))))

def wl_X5_honestOf_4 (p1 : Int32) (Mti : Nat → Int32) (Mrl : Nat → Int32) (Mrr : Nat → Int32)   (post : Int32 → Prop) : Nat → Int32 → Int32 → Prop
  | 0, _, _ => False
  | n4 + 1, x1, x2 => (if 6 ≤ x2 then post x1 else ∃ k13, wl_X5_honestOf_13 p1 Mti Mrl Mrr x2 (fun (y12 : Int32) (y13 : Int32) => gq_nm (x2 + 1) (fun v14 : Int32 => wl_X5_honestOf_4 p1 Mti Mrl Mrr post n4 y12 v14)) k13 x1 0)

def wp_X5_honestOf (p1 : Int32) (Mti : Nat → Int32) (Mrl : Nat → Int32) (Mrr : Nat → Int32) (post : Int32 → Prop) : Prop :=
  ∃ k4, wl_X5_honestOf_4 p1 Mti Mrl Mrr post k4 0 0

theorem iX5_honestOf_X5 : ∀ w ∈ wsX50, w ∈ wsX5_honestOf := by decide +kernel
set_option maxHeartbeats 4000000 in
set_option maxRecDepth 100000 in
theorem c_X5_honestOf (l : Launch) (D : va_G) (ad : Nat → Nat) (ck : Nat → ClassId) (sz : Nat) (Mp : Int32) (Mv : Int32) (Mb : Int32) (Me : Int32) (Md : Int32) (Mdo : Nat → Int32) (Mk : Nat → Int32) (Mm : Nat → Int32) (Mta : Nat → Int32) (Mkn : Nat → Int32) (Mti : Nat → Int32) (Mrl : Nat → Int32) (Mrr : Nat → Int32) (Mt : Nat → Int32) (Mn : Int32) (Mw : Nat → Int32) (Mwl : Nat → Int32) (Mws : Nat → Int32) (Mf : Int32) (Mpa : Nat → Int32) (Mne : Nat → Int32) (p1 : Int32) (post : Int32 → Prop) (hw : wp_X5_honestOf p1 Mti Mrl Mrr post) : Met l yX5_honestOf wsX5_honestOf { frames := 0, cells := 0, slots := 0, locals := 0 } (va_Pc [.ref (ad 16), .int p1] (gq_pre D (tyM ck) (wdM ad ck Mp Mv Mb Me Md Mdo Mk Mm Mta Mkn Mti Mrl Mrr Mt Mn Mw Mwl Mws Mf Mpa Mne) sz)) (va_Qi (fun (r : Int32) (_ : Unit) => post r ) (gq_at D (va_A (wdM ad ck Mp Mv Mb Me Md Mdo Mk Mm Mta Mkn Mti Mrl Mrr Mt Mn Mw Mwl Mws Mf Mpa Mne) sz) (fun (_ : Unit) => (wdM ad ck Mp Mv Mb Me Md Mdo Mk Mm Mta Mkn Mti Mrl Mrr Mt Mn Mw Mwl Mws Mf Mpa Mne))) (va_A (wdM ad ck Mp Mv Mb Me Md Mdo Mk Mm Mta Mkn Mti Mrl Mrr Mt Mn Mw Mwl Mws Mf Mpa Mne) sz)) 0 0 (va_A (wdM ad ck Mp Mv Mb Me Md Mdo Mk Mm Mta Mkn Mti Mrl Mrr Mt Mn Mw Mwl Mws Mf Mpa Mne) sz) := by
  refine gq_meti (cc := cX5_honestOf) (maxL := 5) (lv := [(0, .ref (ad 16)), (1, .int p1)]) (by decide) rfl (Nat.le_of_ble_eq_true rfl) rfl ?_
  intro p e s m below meth c A Q ls H locs hx hb hml hown hts hnw hA hK hP hD hS hl hz
  refine lv_iconst (v := 0) hx hb dX5_honestOf_0 (by decide) ?_
  refine lv_istore_n (lv' := [(2, .int 0), (0, .ref (ad 16)), (1, .int p1)]) hx hb dX5_honestOf_1 rfl hl (by decide) rfl (fun ls hl => ?_)
  refine lv_iconst (v := 0) hx hb dX5_honestOf_2 (by decide) ?_
  refine lv_istore_n (lv' := [(3, .int 0), (2, .int 0), (0, .ref (ad 16)), (1, .int p1)]) hx hb dX5_honestOf_3 rfl hl (by decide) rfl (fun ls hl => ?_)
  have hL4 : ∀ (n : Nat) (x1 : Int32) (x2 : Int32) (H : Heap) (locs : List Loc), wl_X5_honestOf_4 p1 Mti Mrl Mrr post n x1 x2 → va_P D vwCl (wdM ad ck Mp Mv Mb Me Md Mdo Mk Mm Mta Mkn Mti Mrl Mrr Mt Mn Mw Mwl Mws Mf Mpa Mne) H → va_D A (wdM ad ck Mp Mv Mb Me Md Mdo Mk Mm Mta Mkn Mti Mrl Mrr Mt Mn Mw Mwl Mws Mf Mpa Mne) → va_S A s.heap H locs → ∀ ls : Array Slot, lv_has ls 5 [(0, .ref (ad 16)), (1, .int p1), (2, .int x1), (3, .int x2)] → W p l e { frames := 0, cells := 0, slots := 0, locals := 0 } s m ([.ref (ad 16), .int p1] : List Value).toArray below meth c H locs 0 0 Q (F0 m 4 ls []) := by
    intro n
    induction n with
    | zero =>
      intro x1 x2 H locs hw
      exact hw.elim
    | succ n ih =>
      intro x1 x2 H locs hw hP hD hS ls hl
      refine lv_iload_n hx hb dX5_honestOf_4 rfl (lv_at hl 3 rfl) ?_
      refine lv_bipush (v := 6) hx hb dX5_honestOf_5 (by decide) ?_
      refine lv_icmp_ge (tgt := 69) hx hb dX5_honestOf_7 (by decide) (fun c3 => ?_) (fun c3 => ?_)
      · have hw := gq_t c3 hw
        refine lv_iload_n hx hb dX5_honestOf_69 rfl (lv_at hl 2 rfl) ?_
        exact hz x1 () _ _ _ _ dX5_honestOf_70 hw hP hD hS
      · have hw := gq_f c3 hw
        refine lv_iconst (v := 0) hx hb dX5_honestOf_10 (by decide) ?_
        refine lv_istore (lv' := [(4, .int 0), (0, .ref (ad 16)), (1, .int p1), (2, .int x1), (3, .int x2)]) hx hb dX5_honestOf_11 hl (by decide) rfl (fun ls hl => ?_)
        have hL13 : ∀ (X63 : Int32 → Int32 → Prop), (∀ (x4 : Int32) (x5 : Int32) (H : Heap) (locs : List Loc), X63 x4 x5 → va_P D vwCl (wdM ad ck Mp Mv Mb Me Md Mdo Mk Mm Mta Mkn Mti Mrl Mrr Mt Mn Mw Mwl Mws Mf Mpa Mne) H → va_D A (wdM ad ck Mp Mv Mb Me Md Mdo Mk Mm Mta Mkn Mti Mrl Mrr Mt Mn Mw Mwl Mws Mf Mpa Mne) → va_S A s.heap H locs → ∀ ls : Array Slot, lv_has ls 5 [(0, .ref (ad 16)), (1, .int p1), (2, .int x4), (3, .int x2), (4, .int x5)] → W p l e { frames := 0, cells := 0, slots := 0, locals := 0 } s m ([.ref (ad 16), .int p1] : List Value).toArray below meth c H locs 0 0 Q (F0 m 63 ls [])) → ∀ (n : Nat) (x4 : Int32) (x5 : Int32) (H : Heap) (locs : List Loc), wl_X5_honestOf_13 p1 Mti Mrl Mrr x2 X63 n x4 x5 → va_P D vwCl (wdM ad ck Mp Mv Mb Me Md Mdo Mk Mm Mta Mkn Mti Mrl Mrr Mt Mn Mw Mwl Mws Mf Mpa Mne) H → va_D A (wdM ad ck Mp Mv Mb Me Md Mdo Mk Mm Mta Mkn Mti Mrl Mrr Mt Mn Mw Mwl Mws Mf Mpa Mne) → va_S A s.heap H locs → ∀ ls : Array Slot, lv_has ls 5 [(0, .ref (ad 16)), (1, .int p1), (2, .int x4), (3, .int x2), (4, .int x5)] → W p l e { frames := 0, cells := 0, slots := 0, locals := 0 } s m ([.ref (ad 16), .int p1] : List Value).toArray below meth c H locs 0 0 Q (F0 m 13 ls []) := by
          intro X63 hX63
          intro n
          induction n with
          | zero =>
            intro x4 x5 H locs hw
            exact hw.elim
          | succ n ih =>
            intro x4 x5 H locs hw hP hD hS ls hl
            refine lv_iload hx hb dX5_honestOf_13 (lv_at hl 4 rfl) ?_
            refine lv_aload_n hx hb dX5_honestOf_15 rfl (lv_at hl 0 rfl) ?_
            refine va_get (D := D) (ci := 5) (v := .ref (ad 23)) (C := RX5) (T := TX5) (N := 21) hx hb hts iX5_honestOf_X5 hown hK hP 0 rfl rfl 11 (by decide) (hts (.fieldLink RX5 39 "DecoyHouseModel" "roundLong" "[I") (by decide +kernel)) (fun _ h9 => h9) rfl dX5_honestOf_16 ?_
            refine lv_iload_n hx hb dX5_honestOf_19 rfl (lv_at hl 3 rfl) ?_
            refine va_iald hx hb hK hP 7 6 rfl rfl hw.1 dX5_honestOf_20 ?_
            have hw := hw.2
            refine lv_icmp_ge (tgt := 63) hx hb dX5_honestOf_21 (by decide) (fun c6 => ?_) (fun c6 => ?_)
            · have hw := gq_t c6 hw
              exact hX63 x4 x5 _ _ hw hP hD hS ls (lv_sub hl [0, 1, 2, 3, 4] rfl)
            · have hw := gq_f c6 hw
              refine lv_iload_n hx hb dX5_honestOf_24 rfl (lv_at hl 2 rfl) ?_
              refine lv_iload_n hx hb dX5_honestOf_25 rfl (lv_at hl 1 rfl) ?_
              refine lv_aload_n hx hb dX5_honestOf_26 rfl (lv_at hl 0 rfl) ?_
              refine va_get (D := D) (ci := 5) (v := .ref (ad 24)) (C := RX5) (T := TX5) (N := 21) hx hb hts iX5_honestOf_X5 hown hK hP 0 rfl rfl 12 (by decide) (hts (.fieldLink RX5 42 "DecoyHouseModel" "roundRow" "[I") (by decide +kernel)) (fun _ h9 => h9) rfl dX5_honestOf_27 ?_
              refine lv_bipush (v := 8) hx hb dX5_honestOf_30 (by decide) ?_
              refine lv_iload_n hx hb dX5_honestOf_32 rfl (lv_at hl 3 rfl) ?_
              refine lv_imul hx hb dX5_honestOf_33 ?_
              refine lv_iload hx hb dX5_honestOf_34 (lv_at hl 4 rfl) ?_
              refine lv_iadd hx hb dX5_honestOf_36 ?_
              refine va_iald hx hb hK hP 8 7 rfl rfl hw.1 dX5_honestOf_37 ?_
              have hw := hw.2
              refine lv_ishr hx hb dX5_honestOf_38 ?_
              refine lv_iconst (v := 1) hx hb dX5_honestOf_39 (by decide) ?_
              refine lv_iand hx hb dX5_honestOf_40 ?_
              refine lv_iconst (v := 1) hx hb dX5_honestOf_41 (by decide) ?_
              refine lv_icmp_ne (tgt := 54) hx hb dX5_honestOf_42 (by decide) (fun c7 => ?_) (fun c7 => ?_)
              · have hw := gq_f c7 hw
                refine lv_iconst (v := 0) hx hb dX5_honestOf_54 (by decide) ?_
                refine lv_iadd hx hb dX5_honestOf_55 ?_
                refine lv_topi (fun v8 ev8 => ?_)
                have hw := gq_at1 hw ev8
                refine lv_istore_n (lv' := [(2, .int v8), (0, .ref (ad 16)), (1, .int p1), (3, .int x2), (4, .int x5)]) hx hb dX5_honestOf_56 rfl hl (by decide) rfl (fun ls hl => ?_)
                obtain ⟨v9, ev9⟩ : ∃ y : Int32, y = x5 + 1 := ⟨_, rfl⟩
                have hw := gq_at1 hw ev9
                refine lv_iinc (v := v9) (lv' := [(4, .int v9), (2, .int v8), (0, .ref (ad 16)), (1, .int p1), (3, .int x2)]) hx hb dX5_honestOf_57 hl (k := 4) rfl (by rw [ev9]; rfl) (by decide) rfl (fun ls hl => ?_)
                refine lv_goto (tgt := 13) hx hb dX5_honestOf_60 (by decide) ?_
                exact ih v8 v9 _ _ hw hP hD hS ls (lv_sub hl [2, 3, 1, 4, 0] rfl)
              · have hw := gq_t c7 hw
                refine lv_aload_n hx hb dX5_honestOf_45 rfl (lv_at hl 0 rfl) ?_
                refine va_get (D := D) (ci := 5) (v := .ref (ad 22)) (C := RX5) (T := TX5) (N := 21) hx hb hts iX5_honestOf_X5 hown hK hP 0 rfl rfl 10 (by decide) (hts (.fieldLink RX5 36 "DecoyHouseModel" "times" "[I") (by decide +kernel)) (fun _ h9 => h9) rfl dX5_honestOf_46 ?_
                refine lv_iload_n hx hb dX5_honestOf_49 rfl (lv_at hl 3 rfl) ?_
                refine va_iald hx hb hK hP 6 5 rfl rfl hw.1 dX5_honestOf_50 ?_
                have hw := hw.2
                refine lv_goto (tgt := 55) hx hb dX5_honestOf_51 (by decide) ?_
                refine lv_iadd hx hb dX5_honestOf_55 ?_
                refine lv_topi (fun v10 ev10 => ?_)
                have hw := gq_at1 hw ev10
                refine lv_istore_n (lv' := [(2, .int v10), (0, .ref (ad 16)), (1, .int p1), (3, .int x2), (4, .int x5)]) hx hb dX5_honestOf_56 rfl hl (by decide) rfl (fun ls hl => ?_)
                obtain ⟨v11, ev11⟩ : ∃ y : Int32, y = x5 + 1 := ⟨_, rfl⟩
                have hw := gq_at1 hw ev11
                refine lv_iinc (v := v11) (lv' := [(4, .int v11), (2, .int v10), (0, .ref (ad 16)), (1, .int p1), (3, .int x2)]) hx hb dX5_honestOf_57 hl (k := 4) rfl (by rw [ev11]; rfl) (by decide) rfl (fun ls hl => ?_)
                refine lv_goto (tgt := 13) hx hb dX5_honestOf_60 (by decide) ?_
                exact ih v10 v11 _ _ hw hP hD hS ls (lv_sub hl [2, 3, 1, 4, 0] rfl)
        obtain ⟨n, hw⟩ := hw
        refine hL13 _ (fun y12 y13 H locs hw hP hD hS ls hl => ?_) n x1 0 _ _ hw hP hD hS ls (lv_sub hl [1, 2, 3, 4, 0] rfl)
        obtain ⟨v14, ev14⟩ : ∃ y : Int32, y = x2 + 1 := ⟨_, rfl⟩
        have hw := gq_at1 hw ev14
        refine lv_iinc (v := v14) (lv' := [(3, .int v14), (0, .ref (ad 16)), (1, .int p1), (2, .int y12), (4, .int y13)]) hx hb dX5_honestOf_63 hl (k := 3) rfl (by rw [ev14]; rfl) (by decide) rfl (fun ls hl => ?_)
        refine lv_goto (tgt := 4) hx hb dX5_honestOf_66 (by decide) ?_
        exact ih y12 v14 _ _ hw hP hD hS ls (lv_sub hl [1, 2, 3, 0] rfl)
  obtain ⟨n, hw⟩ := hw
  exact hL4 n 0 0 _ _ hw hP hD hS ls (lv_sub hl [2, 3, 1, 0] rfl)

def wp_X5_honest (p1 : Int32) (Mp : Int32) (Mti : Nat → Int32) (Mrl : Nat → Int32) (Mrr : Nat → Int32) (post : Int32 → Prop) : Prop :=
  wp_X5_isSet p1 Mp (fun (r1 : Int32) => (if r1 = 0 then post (-1) else wp_X5_honestOf p1 Mti Mrl Mrr (fun (r3 : Int32) => post r3)))

set_option maxHeartbeats 4000000 in
set_option maxRecDepth 100000 in
theorem c_X5_honest (l : Launch) (D : va_G) (ad : Nat → Nat) (ck : Nat → ClassId) (sz : Nat) (Mp : Int32) (Mv : Int32) (Mb : Int32) (Me : Int32) (Md : Int32) (Mdo : Nat → Int32) (Mk : Nat → Int32) (Mm : Nat → Int32) (Mta : Nat → Int32) (Mkn : Nat → Int32) (Mti : Nat → Int32) (Mrl : Nat → Int32) (Mrr : Nat → Int32) (Mt : Nat → Int32) (Mn : Int32) (Mw : Nat → Int32) (Mwl : Nat → Int32) (Mws : Nat → Int32) (Mf : Int32) (Mpa : Nat → Int32) (Mne : Nat → Int32) (p1 : Int32) (post : Int32 → Prop) (hw : wp_X5_honest p1 Mp Mti Mrl Mrr post) : Met l yX5_honest wsX5_honest { frames := 2, cells := 0, slots := 0, locals := 43 } (va_Pc [.ref (ad 16), .int p1] (gq_pre D (tyM ck) (wdM ad ck Mp Mv Mb Me Md Mdo Mk Mm Mta Mkn Mti Mrl Mrr Mt Mn Mw Mwl Mws Mf Mpa Mne) sz)) (va_Qi (fun (r : Int32) (_ : Unit) => post r ) (gq_at D (va_A (wdM ad ck Mp Mv Mb Me Md Mdo Mk Mm Mta Mkn Mti Mrl Mrr Mt Mn Mw Mwl Mws Mf Mpa Mne) sz) (fun (_ : Unit) => (wdM ad ck Mp Mv Mb Me Md Mdo Mk Mm Mta Mkn Mti Mrl Mrr Mt Mn Mw Mwl Mws Mf Mpa Mne))) (va_A (wdM ad ck Mp Mv Mb Me Md Mdo Mk Mm Mta Mkn Mti Mrl Mrr Mt Mn Mw Mwl Mws Mf Mpa Mne) sz)) 0 0 (va_A (wdM ad ck Mp Mv Mb Me Md Mdo Mk Mm Mta Mkn Mti Mrl Mrr Mt Mn Mw Mwl Mws Mf Mpa Mne) sz) := by
  refine gq_meti (cc := cX5_honest) (maxL := 2) (lv := [(0, .ref (ad 16)), (1, .int p1)]) (by decide) rfl (Nat.le_of_ble_eq_true rfl) rfl ?_
  intro p e s m below meth c A Q ls H locs hx hb hml hown hts hnw hA hK hP hD hS hl hz
  refine lv_aload_n hx hb dX5_honest_0 rfl (lv_at hl 0 rfl) ?_
  refine lv_iload_n hx hb dX5_honest_1 rfl (lv_at hl 1 rfl) ?_
  refine gq_calli (wsN := fun _ => (wdM ad ck Mp Mv Mb Me Md Mdo Mk Mm Mta Mkn Mti Mrl Mrr Mt Mn Mw Mwl Mws Mf Mpa Mne)) (va_runV (As := [.int p1]) (rest := []) ⟨hx, hb, hml, hown, hts⟩ (c_X5_isSet l D ad ck H.size Mp Mv Mb Me Md Mdo Mk Mm Mta Mkn Mti Mrl Mrr Mt Mn Mw Mwl Mws Mf Mpa Mne p1 _ hw) (cwV 1 hts gX5_honest_X5_isSet rfl rfl rfl (by decide +kernel) ⟨Nat.le_of_ble_eq_true rfl, Nat.le_of_ble_eq_true rfl⟩) (gq_preV hK [0, 1, 2, 3, 4, 5, 6, 7, 8, 9, 10, 11, 12, 13] rfl hP hD [0, 1, 2, 3, 4, 5, 6, 7, 8, 9, 10, 11, 12, 13, 14] rfl rfl hnw 5 0 rfl rfl) rfl rfl hl.1 rfl (lv_room (Nat.le_of_ble_eq_true rfl)) dX5_honest_2 ⟨Nat.zero_le _, Nat.zero_le _⟩) hP hD hS hA [0, 1, 2, 3, 4, 5, 6, 7, 8, 9, 10, 11, 12, 13, 14] [] rfl rfl rfl (by decide) [0, 1, 2, 3, 4, 5, 6, 7, 8, 9, 10, 11, 12, 13, 14] rfl (fun _ => rfl) (fun r1 _ H locs hw hP hD hS => ?_)
  refine lv_if_eq (tgt := 16) hx hb dX5_honest_5 (by decide) (fun c2 => ?_) (fun c2 => ?_)
  · have hw := gq_t c2 hw
    refine lv_iconst (v := (-1)) hx hb dX5_honest_16 (by decide) ?_
    exact hz (-1) () _ _ _ _ dX5_honest_17 hw hP hD hS
  · have hw := gq_f c2 hw
    refine lv_aload_n hx hb dX5_honest_8 rfl (lv_at hl 0 rfl) ?_
    refine lv_iload_n hx hb dX5_honest_9 rfl (lv_at hl 1 rfl) ?_
    refine gq_calli (wsN := fun _ => (wdM ad ck Mp Mv Mb Me Md Mdo Mk Mm Mta Mkn Mti Mrl Mrr Mt Mn Mw Mwl Mws Mf Mpa Mne)) (va_runV (As := [.int p1]) (rest := []) ⟨hx, hb, hml, hown, hts⟩ (c_X5_honestOf l D ad ck H.size Mp Mv Mb Me Md Mdo Mk Mm Mta Mkn Mti Mrl Mrr Mt Mn Mw Mwl Mws Mf Mpa Mne p1 _ hw) (cwV 1 hts gX5_honest_X5_honestOf rfl rfl rfl (by decide +kernel) ⟨Nat.le_of_ble_eq_true rfl, Nat.le_of_ble_eq_true rfl⟩) (gq_preV hK [0, 1, 2, 3, 4, 5, 6, 7, 8, 9, 10, 11, 12, 13] rfl hP hD [0, 1, 2, 3, 4, 5, 6, 7, 8, 9, 10, 11, 12, 13, 14] rfl rfl hnw 5 0 rfl rfl) rfl rfl hl.1 rfl (lv_room (Nat.le_of_ble_eq_true rfl)) dX5_honest_10 ⟨Nat.zero_le _, Nat.zero_le _⟩) hP hD hS hA [0, 1, 2, 3, 4, 5, 6, 7, 8, 9, 10, 11, 12, 13, 14] [] rfl rfl rfl (by decide) [0, 1, 2, 3, 4, 5, 6, 7, 8, 9, 10, 11, 12, 13, 14] rfl (fun _ => rfl) (fun r3 _ H locs hw hP hD hS => ?_)
    refine lv_goto (tgt := 17) hx hb dX5_honest_13 (by decide) ?_
    exact hz r3 () _ _ _ _ dX5_honest_17 hw hP hD hS

def wl_X5_isFree_4 (p1 : Int32) (Mp : Int32) (Me : Int32) (Mk : Nat → Int32) (Mkn : Nat → Int32)   (post : Int32 → Prop) : Nat → Int32 → Int32 → Prop
  | 0, _, _ => False
  | n4 + 1, x1, x2 => (if Mp ≤ x2 then gq_zb x1 ∧ post x1 else (if x1 = 0 then gq_nm (x2 + 1) (fun v5 : Int32 => wl_X5_isFree_4 p1 Mp Me Mk Mkn post n4 0 v5) else (if ((p1 >>> (x2 &&& 31)) &&& 1) = 0 then gq_nm (x2 + 1) (fun v7 : Int32 => wl_X5_isFree_4 p1 Mp Me Mk Mkn post n4 1 v7) else vp_in x2 9 ∧ (if (Mk (x2).toNatClampNeg) = 0 then wp_X5_isKnown x2 Me Mkn (fun (r10 : Int32) => (if r10 = 0 then gq_nm (x2 + 1) (fun v13 : Int32 => wl_X5_isFree_4 p1 Mp Me Mk Mkn post n4 1 v13) else gq_nm (x2 + 1) (fun v12 : Int32 => wl_X5_isFree_4 p1 Mp Me Mk Mkn post n4 0 v12))) else gq_nm (x2 + 1) (fun v9 : Int32 => wl_X5_isFree_4 p1 Mp Me Mk Mkn post n4 0 v9)))))

def wp_X5_isFree (p1 : Int32) (Mp : Int32) (Me : Int32) (Mk : Nat → Int32) (Mkn : Nat → Int32) (post : Int32 → Prop) : Prop :=
  ∃ k4, wl_X5_isFree_4 p1 Mp Me Mk Mkn post k4 1 0

theorem iX5_isFree_X5 : ∀ w ∈ wsX50, w ∈ wsX5_isFree := by decide +kernel
set_option maxHeartbeats 4000000 in
set_option maxRecDepth 100000 in
theorem c_X5_isFree (l : Launch) (D : va_G) (ad : Nat → Nat) (ck : Nat → ClassId) (sz : Nat) (Mp : Int32) (Mv : Int32) (Mb : Int32) (Me : Int32) (Md : Int32) (Mdo : Nat → Int32) (Mk : Nat → Int32) (Mm : Nat → Int32) (Mta : Nat → Int32) (Mkn : Nat → Int32) (Mti : Nat → Int32) (Mrl : Nat → Int32) (Mrr : Nat → Int32) (Mt : Nat → Int32) (Mn : Int32) (Mw : Nat → Int32) (Mwl : Nat → Int32) (Mws : Nat → Int32) (Mf : Int32) (Mpa : Nat → Int32) (Mne : Nat → Int32) (p1 : Int32) (post : Int32 → Prop) (hw : wp_X5_isFree p1 Mp Me Mk Mkn post) : Met l yX5_isFree wsX5_isFree { frames := 1, cells := 0, slots := 0, locals := 21 } (va_Pc [.ref (ad 16), .int p1] (gq_pre D (tyM ck) (wdM ad ck Mp Mv Mb Me Md Mdo Mk Mm Mta Mkn Mti Mrl Mrr Mt Mn Mw Mwl Mws Mf Mpa Mne) sz)) (va_Qi (fun (r : Int32) (_ : Unit) => post r ) (gq_at D (va_A (wdM ad ck Mp Mv Mb Me Md Mdo Mk Mm Mta Mkn Mti Mrl Mrr Mt Mn Mw Mwl Mws Mf Mpa Mne) sz) (fun (_ : Unit) => (wdM ad ck Mp Mv Mb Me Md Mdo Mk Mm Mta Mkn Mti Mrl Mrr Mt Mn Mw Mwl Mws Mf Mpa Mne))) (va_A (wdM ad ck Mp Mv Mb Me Md Mdo Mk Mm Mta Mkn Mti Mrl Mrr Mt Mn Mw Mwl Mws Mf Mpa Mne) sz)) 0 0 (va_A (wdM ad ck Mp Mv Mb Me Md Mdo Mk Mm Mta Mkn Mti Mrl Mrr Mt Mn Mw Mwl Mws Mf Mpa Mne) sz) := by
  refine gq_metz (cc := cX5_isFree) (maxL := 4) (lv := [(0, .ref (ad 16)), (1, .int p1)]) (by decide) rfl (Nat.le_of_ble_eq_true rfl) rfl ?_
  intro p e s m below meth c A Q ls H locs hx hb hml hown hts hnw hA hK hP hD hS hl hz
  refine lv_iconst (v := 1) hx hb dX5_isFree_0 (by decide) ?_
  refine lv_istore_n (lv' := [(2, .int 1), (0, .ref (ad 16)), (1, .int p1)]) hx hb dX5_isFree_1 rfl hl (by decide) rfl (fun ls hl => ?_)
  refine lv_iconst (v := 0) hx hb dX5_isFree_2 (by decide) ?_
  refine lv_istore_n (lv' := [(3, .int 0), (2, .int 1), (0, .ref (ad 16)), (1, .int p1)]) hx hb dX5_isFree_3 rfl hl (by decide) rfl (fun ls hl => ?_)
  have hL4 : ∀ (n : Nat) (x1 : Int32) (x2 : Int32) (H : Heap) (locs : List Loc), wl_X5_isFree_4 p1 Mp Me Mk Mkn post n x1 x2 → va_P D vwCl (wdM ad ck Mp Mv Mb Me Md Mdo Mk Mm Mta Mkn Mti Mrl Mrr Mt Mn Mw Mwl Mws Mf Mpa Mne) H → va_D A (wdM ad ck Mp Mv Mb Me Md Mdo Mk Mm Mta Mkn Mti Mrl Mrr Mt Mn Mw Mwl Mws Mf Mpa Mne) → va_S A s.heap H locs → ∀ ls : Array Slot, lv_has ls 4 [(0, .ref (ad 16)), (1, .int p1), (2, .int x1), (3, .int x2)] → W p l e { frames := 1, cells := 0, slots := 0, locals := 21 } s m ([.ref (ad 16), .int p1] : List Value).toArray below meth c H locs 0 0 Q (F0 m 4 ls []) := by
    intro n
    induction n with
    | zero =>
      intro x1 x2 H locs hw
      exact hw.elim
    | succ n ih =>
      intro x1 x2 H locs hw hP hD hS ls hl
      refine lv_iload_n hx hb dX5_isFree_4 rfl (lv_at hl 3 rfl) ?_
      refine lv_aload_n hx hb dX5_isFree_5 rfl (lv_at hl 0 rfl) ?_
      refine va_get (D := D) (ci := 5) (v := .int Mp) (C := RX5) (T := TX5) (N := 21) hx hb hts iX5_isFree_X5 hown hK hP 0 rfl rfl 0 (by decide) (hts (.fieldLink RX5 7 "DecoyHouseModel" "places" "I") (by decide +kernel)) (fun _ h9 => h9) rfl dX5_isFree_6 ?_
      refine lv_icmp_ge (tgt := 53) hx hb dX5_isFree_9 (by decide) (fun c3 => ?_) (fun c3 => ?_)
      · have hw := gq_t c3 hw
        refine lv_iload_n hx hb dX5_isFree_53 rfl (lv_at hl 2 rfl) ?_
        exact hz x1 () _ _ _ _ dX5_isFree_54 hw.1 hw.2 hP hD hS
      · have hw := gq_f c3 hw
        refine lv_iload_n hx hb dX5_isFree_12 rfl (lv_at hl 2 rfl) ?_
        refine lv_if_eq (tgt := 45) hx hb dX5_isFree_13 (by decide) (fun c4 => ?_) (fun c4 => ?_)
        · have hw := gq_t c4 hw
          refine lv_iconst (v := 0) hx hb dX5_isFree_45 (by decide) ?_
          refine lv_istore_n (lv' := [(2, .int 0), (0, .ref (ad 16)), (1, .int p1), (3, .int x2)]) hx hb dX5_isFree_46 rfl hl (by decide) rfl (fun ls hl => ?_)
          obtain ⟨v5, ev5⟩ : ∃ y : Int32, y = x2 + 1 := ⟨_, rfl⟩
          have hw := gq_at1 hw ev5
          refine lv_iinc (v := v5) (lv' := [(3, .int v5), (2, .int 0), (0, .ref (ad 16)), (1, .int p1)]) hx hb dX5_isFree_47 hl (k := 3) rfl (by rw [ev5]; rfl) (by decide) rfl (fun ls hl => ?_)
          refine lv_goto (tgt := 4) hx hb dX5_isFree_50 (by decide) ?_
          exact ih 0 v5 _ _ hw hP hD hS ls (lv_sub hl [2, 3, 1, 0] rfl)
        · have hw := gq_f c4 hw
          refine lv_iload_n hx hb dX5_isFree_16 rfl (lv_at hl 1 rfl) ?_
          refine lv_iload_n hx hb dX5_isFree_17 rfl (lv_at hl 3 rfl) ?_
          refine lv_ishr hx hb dX5_isFree_18 ?_
          refine lv_iconst (v := 1) hx hb dX5_isFree_19 (by decide) ?_
          refine lv_iand hx hb dX5_isFree_20 ?_
          refine lv_if_eq (tgt := 41) hx hb dX5_isFree_21 (by decide) (fun c6 => ?_) (fun c6 => ?_)
          · have hw := gq_t c6 hw
            refine lv_iconst (v := 1) hx hb dX5_isFree_41 (by decide) ?_
            refine lv_goto (tgt := 46) hx hb dX5_isFree_42 (by decide) ?_
            refine lv_istore_n (lv' := [(2, .int 1), (0, .ref (ad 16)), (1, .int p1), (3, .int x2)]) hx hb dX5_isFree_46 rfl hl (by decide) rfl (fun ls hl => ?_)
            obtain ⟨v7, ev7⟩ : ∃ y : Int32, y = x2 + 1 := ⟨_, rfl⟩
            have hw := gq_at1 hw ev7
            refine lv_iinc (v := v7) (lv' := [(3, .int v7), (2, .int 1), (0, .ref (ad 16)), (1, .int p1)]) hx hb dX5_isFree_47 hl (k := 3) rfl (by rw [ev7]; rfl) (by decide) rfl (fun ls hl => ?_)
            refine lv_goto (tgt := 4) hx hb dX5_isFree_50 (by decide) ?_
            exact ih 1 v7 _ _ hw hP hD hS ls (lv_sub hl [2, 3, 1, 0] rfl)
          · have hw := gq_f c6 hw
            refine lv_aload_n hx hb dX5_isFree_24 rfl (lv_at hl 0 rfl) ?_
            refine va_get (D := D) (ci := 5) (v := .ref (ad 18)) (C := RX5) (T := TX5) (N := 21) hx hb hts iX5_isFree_X5 hown hK hP 0 rfl rfl 6 (by decide) (hts (.fieldLink RX5 23 "DecoyHouseModel" "kind" "[I") (by decide +kernel)) (fun _ h9 => h9) rfl dX5_isFree_25 ?_
            refine lv_iload_n hx hb dX5_isFree_28 rfl (lv_at hl 3 rfl) ?_
            refine va_iald hx hb hK hP 2 1 rfl rfl hw.1 dX5_isFree_29 ?_
            have hw := hw.2
            refine lv_if_ne (tgt := 45) hx hb dX5_isFree_30 (by decide) (fun c8 => ?_) (fun c8 => ?_)
            · have hw := gq_f c8 hw
              refine lv_iconst (v := 0) hx hb dX5_isFree_45 (by decide) ?_
              refine lv_istore_n (lv' := [(2, .int 0), (0, .ref (ad 16)), (1, .int p1), (3, .int x2)]) hx hb dX5_isFree_46 rfl hl (by decide) rfl (fun ls hl => ?_)
              obtain ⟨v9, ev9⟩ : ∃ y : Int32, y = x2 + 1 := ⟨_, rfl⟩
              have hw := gq_at1 hw ev9
              refine lv_iinc (v := v9) (lv' := [(3, .int v9), (2, .int 0), (0, .ref (ad 16)), (1, .int p1)]) hx hb dX5_isFree_47 hl (k := 3) rfl (by rw [ev9]; rfl) (by decide) rfl (fun ls hl => ?_)
              refine lv_goto (tgt := 4) hx hb dX5_isFree_50 (by decide) ?_
              exact ih 0 v9 _ _ hw hP hD hS ls (lv_sub hl [2, 3, 1, 0] rfl)
            · have hw := gq_t c8 hw
              refine lv_aload_n hx hb dX5_isFree_33 rfl (lv_at hl 0 rfl) ?_
              refine lv_iload_n hx hb dX5_isFree_34 rfl (lv_at hl 3 rfl) ?_
              refine gq_calli (wsN := fun _ => (wdM ad ck Mp Mv Mb Me Md Mdo Mk Mm Mta Mkn Mti Mrl Mrr Mt Mn Mw Mwl Mws Mf Mpa Mne)) (va_runV (As := [.int x2]) (rest := []) ⟨hx, hb, hml, hown, hts⟩ (c_X5_isKnown l D ad ck H.size Mp Mv Mb Me Md Mdo Mk Mm Mta Mkn Mti Mrl Mrr Mt Mn Mw Mwl Mws Mf Mpa Mne x2 _ hw) (cwV 1 hts gX5_isFree_X5_isKnown rfl rfl rfl (by decide +kernel) ⟨Nat.le_of_ble_eq_true rfl, Nat.le_of_ble_eq_true rfl⟩) (gq_preV hK [0, 1, 2, 3, 4, 5, 6, 7, 8, 9, 10, 11, 12, 13] rfl hP hD [0, 1, 2, 3, 4, 5, 6, 7, 8, 9, 10, 11, 12, 13, 14] rfl rfl hnw 5 0 rfl rfl) rfl rfl hl.1 rfl (lv_room (Nat.le_of_ble_eq_true rfl)) dX5_isFree_35 ⟨Nat.zero_le _, Nat.zero_le _⟩) hP hD hS hA [0, 1, 2, 3, 4, 5, 6, 7, 8, 9, 10, 11, 12, 13, 14] [] rfl rfl rfl (by decide) [0, 1, 2, 3, 4, 5, 6, 7, 8, 9, 10, 11, 12, 13, 14] rfl (fun _ => rfl) (fun r10 _ H locs hw hP hD hS => ?_)
              refine lv_if_ne (tgt := 45) hx hb dX5_isFree_38 (by decide) (fun c11 => ?_) (fun c11 => ?_)
              · have hw := gq_f c11 hw
                refine lv_iconst (v := 0) hx hb dX5_isFree_45 (by decide) ?_
                refine lv_istore_n (lv' := [(2, .int 0), (0, .ref (ad 16)), (1, .int p1), (3, .int x2)]) hx hb dX5_isFree_46 rfl hl (by decide) rfl (fun ls hl => ?_)
                obtain ⟨v12, ev12⟩ : ∃ y : Int32, y = x2 + 1 := ⟨_, rfl⟩
                have hw := gq_at1 hw ev12
                refine lv_iinc (v := v12) (lv' := [(3, .int v12), (2, .int 0), (0, .ref (ad 16)), (1, .int p1)]) hx hb dX5_isFree_47 hl (k := 3) rfl (by rw [ev12]; rfl) (by decide) rfl (fun ls hl => ?_)
                refine lv_goto (tgt := 4) hx hb dX5_isFree_50 (by decide) ?_
                exact ih 0 v12 _ _ hw hP hD hS ls (lv_sub hl [2, 3, 1, 0] rfl)
              · have hw := gq_t c11 hw
                refine lv_iconst (v := 1) hx hb dX5_isFree_41 (by decide) ?_
                refine lv_goto (tgt := 46) hx hb dX5_isFree_42 (by decide) ?_
                refine lv_istore_n (lv' := [(2, .int 1), (0, .ref (ad 16)), (1, .int p1), (3, .int x2)]) hx hb dX5_isFree_46 rfl hl (by decide) rfl (fun ls hl => ?_)
                obtain ⟨v13, ev13⟩ : ∃ y : Int32, y = x2 + 1 := ⟨_, rfl⟩
                have hw := gq_at1 hw ev13
                refine lv_iinc (v := v13) (lv' := [(3, .int v13), (2, .int 1), (0, .ref (ad 16)), (1, .int p1)]) hx hb dX5_isFree_47 hl (k := 3) rfl (by rw [ev13]; rfl) (by decide) rfl (fun ls hl => ?_)
                refine lv_goto (tgt := 4) hx hb dX5_isFree_50 (by decide) ?_
                exact ih 1 v13 _ _ hw hP hD hS ls (lv_sub hl [2, 3, 1, 0] rfl)
  obtain ⟨n, hw⟩ := hw
  exact hL4 n 1 0 _ _ hw hP hD hS ls (lv_sub hl [2, 3, 1, 0] rfl)

