def wl_X5_best_41 (p1 : Int32) (p2 : Int32) (Mp : Int32) (Me : Int32) (Mk : Nat → Int32) (Mkn : Nat → Int32) (Mti : Nat → Int32) (Mrl : Nat → Int32) (Mrr : Nat → Int32) (Mws_9 : Nat → Int32) (Mf_10 : Int32)  (X175 : Int32 → Int32 → Int32 → Prop) : Nat → Int32 → Int32 → Int32 → Prop
  | 0, _, _, _ => False
  | n41 + 1, x14, x15, x16 => (if ((1 : Int32) <<< (Mp &&& 31)) ≤ x16 then X175 x14 x15 x16 else wp_X5_bits x16 (fun (r18 : Int32) => (if p1 < r18 then gq_nm (x16 + 1) (fun v20 : Int32 => wl_X5_best_41 p1 p2 Mp Me Mk Mkn Mti Mrl Mrr Mws_9 Mf_10 X175 n41 x14 x15 v20) else wp_X5_honestOf x16 Mti Mrl Mrr (fun (r21 : Int32) => (if p2 < r21 then gq_nm (x16 + 1) (fun v23 : Int32 => wl_X5_best_41 p1 p2 Mp Me Mk Mkn Mti Mrl Mrr Mws_9 Mf_10 X175 n41 x14 x15 v23) else wp_X5_isFree x16 Mp Me Mk Mkn (fun (r24 : Int32) => (if r24 = 0 then gq_nm (x16 + 1) (fun v56 : Int32 => wl_X5_best_41 p1 p2 Mp Me Mk Mkn Mti Mrl Mrr Mws_9 Mf_10 X175 n41 x14 x15 v56) else wp_X5_touchedBy x16 Mws_9 Mf_10 (fun (r26 : Int32) => (if x15 < r26 then (if (1 : Int32) = 0 then gq_nm (x16 + 1) (fun v30 : Int32 => wl_X5_best_41 p1 p2 Mp Me Mk Mkn Mti Mrl Mrr Mws_9 Mf_10 X175 n41 x14 x15 v30) else gq_nm (x16 + 1) (fun v29 : Int32 => wl_X5_best_41 p1 p2 Mp Me Mk Mkn Mti Mrl Mrr Mws_9 Mf_10 X175 n41 x16 r26 v29)) else (if r26 = x15 then wp_X5_bits x16 (fun (r35 : Int32) => wp_X5_bits x14 (fun (r36 : Int32) => (if r35 < r36 then (if (1 : Int32) = 0 then gq_nm (x16 + 1) (fun v40 : Int32 => wl_X5_best_41 p1 p2 Mp Me Mk Mkn Mti Mrl Mrr Mws_9 Mf_10 X175 n41 x14 x15 v40) else gq_nm (x16 + 1) (fun v39 : Int32 => wl_X5_best_41 p1 p2 Mp Me Mk Mkn Mti Mrl Mrr Mws_9 Mf_10 X175 n41 x16 r26 v39)) else wp_X5_bits x16 (fun (r41 : Int32) => wp_X5_bits x14 (fun (r42 : Int32) => (if r41 = r42 then wp_X5_honestOf x16 Mti Mrl Mrr (fun (r47 : Int32) => wp_X5_honestOf x14 Mti Mrl Mrr (fun (r48 : Int32) => (if r48 ≤ r47 then (if (0 : Int32) = 0 then gq_nm (x16 + 1) (fun v52 : Int32 => wl_X5_best_41 p1 p2 Mp Me Mk Mkn Mti Mrl Mrr Mws_9 Mf_10 X175 n41 x14 x15 v52) else gq_nm (x16 + 1) (fun v51 : Int32 => wl_X5_best_41 p1 p2 Mp Me Mk Mkn Mti Mrl Mrr Mws_9 Mf_10 X175 n41 x16 r26 v51)) else (if (1 : Int32) = 0 then gq_nm (x16 + 1) (fun v55 : Int32 => wl_X5_best_41 p1 p2 Mp Me Mk Mkn Mti Mrl Mrr Mws_9 Mf_10 X175 n41 x14 x15 v55) else gq_nm (x16 + 1) (fun v54 : Int32 => wl_X5_best_41 p1 p2 Mp Me Mk Mkn Mti Mrl Mrr Mws_9 Mf_10 X175 n41 x16 r26 v54))))) else (if (0 : Int32) = 0 then gq_nm (x16 + 1) (fun v46 : Int32 => wl_X5_best_41 p1 p2 Mp Me Mk Mkn Mti Mrl Mrr Mws_9 Mf_10 X175 n41 x14 x15 v46) else gq_nm (x16 + 1) (fun v45 : Int32 => wl_X5_best_41 p1 p2 Mp Me Mk Mkn Mti Mrl Mrr Mws_9 Mf_10 X175 n41 x16 r26 v45)))))))) else (if (0 : Int32) = 0 then gq_nm (x16 + 1) (fun v34 : Int32 => wl_X5_best_41 p1 p2 Mp Me Mk Mkn Mti Mrl Mrr Mws_9 Mf_10 X175 n41 x14 x15 v34) else gq_nm (x16 + 1) (fun v33 : Int32 => wl_X5_best_41 p1 p2 Mp Me Mk Mkn Mti Mrl Mrr Mws_9 Mf_10 X175 n41 x16 r26 v33))))))))))))

def wp_X5_best (p1 : Int32) (p2 : Int32) (p3 : Int32) (Mp : Int32) (Me : Int32) (Mdo : Nat → Int32) (Mk : Nat → Int32) (Mkn : Nat → Int32) (Mti : Nat → Int32) (Mrl : Nat → Int32) (Mrr : Nat → Int32) (Mw : Nat → Int32) (Mwl : Nat → Int32) (Mws : Nat → Int32) (Mf : Int32) (Mpa : Nat → Int32) (Mne : Nat → Int32) (post : Int32 → (Nat → Int32) → (Nat → Int32) → (Nat → Int32) → Int32 → (Nat → Int32) → (Nat → Int32) → Prop) : Prop :=
  wp_X5_isIn p1 0 9 (fun (r1 : Int32) => (if r1 = 0 then post (-1) Mw Mwl Mws Mf Mpa Mne else (if p2 < 0 then post (-1) Mw Mwl Mws Mf Mpa Mne else wp_X5_isIn p3 0 2 (fun (r4 : Int32) => (if r4 = 0 then post (-1) Mw Mwl Mws Mf Mpa Mne else wp_X5_finds Mp Mdo Mk Mw Mwl Mws Mf Mpa Mne (fun (r6 : Int32) (Mw_7 : Nat → Int32) (Mwl_8 : Nat → Int32) (Mws_9 : Nat → Int32) (Mf_10 : Int32) (Mpa_11 : Nat → Int32) (Mne_12 : Nat → Int32) => (if r6 = 0 then post (-1) Mw_7 Mwl_8 Mws_9 Mf_10 Mpa_11 Mne_12 else ∃ k41, wl_X5_best_41 p1 p2 Mp Me Mk Mkn Mti Mrl Mrr Mws_9 Mf_10 (fun (y57 : Int32) (y58 : Int32) (y59 : Int32) => (if p3 = 0 then post y58 Mw_7 Mwl_8 Mws_9 Mf_10 Mpa_11 Mne_12 else (if p3 = 1 then post y57 Mw_7 Mwl_8 Mws_9 Mf_10 Mpa_11 Mne_12 else wp_X5_honestOf y57 Mti Mrl Mrr (fun (r62 : Int32) => post r62 Mw_7 Mwl_8 Mws_9 Mf_10 Mpa_11 Mne_12)))) k41 0 0 1)))))))

theorem iX5_best_X5 : ∀ w ∈ wsX50, w ∈ wsX5_best := by decide +kernel
set_option maxHeartbeats 4000000 in
set_option maxRecDepth 100000 in
theorem c_X5_best (l : Launch) (D : va_G) (ad : Nat → Nat) (ck : Nat → ClassId) (sz : Nat) (Mp : Int32) (Mv : Int32) (Mb : Int32) (Me : Int32) (Md : Int32) (Mdo : Nat → Int32) (Mk : Nat → Int32) (Mm : Nat → Int32) (Mta : Nat → Int32) (Mkn : Nat → Int32) (Mti : Nat → Int32) (Mrl : Nat → Int32) (Mrr : Nat → Int32) (Mt : Nat → Int32) (Mn : Int32) (Mw : Nat → Int32) (Mwl : Nat → Int32) (Mws : Nat → Int32) (Mf : Int32) (Mpa : Nat → Int32) (Mne : Nat → Int32) (p1 : Int32) (p2 : Int32) (p3 : Int32) (post : Int32 → (Nat → Int32) → (Nat → Int32) → (Nat → Int32) → Int32 → (Nat → Int32) → (Nat → Int32) → Prop) (hw : wp_X5_best p1 p2 p3 Mp Me Mdo Mk Mkn Mti Mrl Mrr Mw Mwl Mws Mf Mpa Mne post) : Met l yX5_best wsX5_best { frames := 2, cells := 0, slots := 0, locals := 47 } (va_Pc [.ref (ad 16), .int p1, .int p2, .int p3] (gq_pre D (tyM ck) (wdM ad ck Mp Mv Mb Me Md Mdo Mk Mm Mta Mkn Mti Mrl Mrr Mt Mn Mw Mwl Mws Mf Mpa Mne) sz)) (va_Qi (fun (r : Int32) (u : (Nat → Int32) × (Nat → Int32) × (Nat → Int32) × Int32 × (Nat → Int32) × (Nat → Int32)) => post r u.1 u.2.1 u.2.2.1 u.2.2.2.1 u.2.2.2.2.1 u.2.2.2.2.2) (gq_at D (va_A (wdM ad ck Mp Mv Mb Me Md Mdo Mk Mm Mta Mkn Mti Mrl Mrr Mt Mn Mw Mwl Mws Mf Mpa Mne) sz) (fun (u : (Nat → Int32) × (Nat → Int32) × (Nat → Int32) × Int32 × (Nat → Int32) × (Nat → Int32)) => (wdM ad ck Mp Mv Mb Me Md Mdo Mk Mm Mta Mkn Mti Mrl Mrr Mt Mn u.1 u.2.1 u.2.2.1 u.2.2.2.1 u.2.2.2.2.1 u.2.2.2.2.2))) (va_A (wdM ad ck Mp Mv Mb Me Md Mdo Mk Mm Mta Mkn Mti Mrl Mrr Mt Mn Mw Mwl Mws Mf Mpa Mne) sz)) 0 0 (va_A (wdM ad ck Mp Mv Mb Me Md Mdo Mk Mm Mta Mkn Mti Mrl Mrr Mt Mn Mw Mwl Mws Mf Mpa Mne) sz) := by
  refine gq_meti (cc := cX5_best) (maxL := 9) (lv := [(0, .ref (ad 16)), (1, .int p1), (2, .int p2), (3, .int p3)]) (by decide) rfl (Nat.le_of_ble_eq_true rfl) rfl ?_
  intro p e s m below meth c A Q ls H locs hx hb hml hown hts hnw hA hK hP hD hS hl hz
  refine lv_iload_n hx hb dX5_best_0 rfl (lv_at hl 1 rfl) ?_
  refine lv_iconst (v := 0) hx hb dX5_best_1 (by decide) ?_
  refine lv_bipush (v := 9) hx hb dX5_best_2 (by decide) ?_
  refine gq_calli (wsN := fun _ => (wdM ad ck Mp Mv Mb Me Md Mdo Mk Mm Mta Mkn Mti Mrl Mrr Mt Mn Mw Mwl Mws Mf Mpa Mne)) (va_runS (As := [.int p1, .int 0, .int 9]) (rest := []) ⟨hx, hb, hml, hown, hts⟩ (c_X5_isIn l D H.size p1 0 9 _ hw) (va_cwS 3 hts gX5_best_X5_isIn rfl rfl rfl (by decide +kernel) ⟨Nat.le_of_ble_eq_true rfl, Nat.le_of_ble_eq_true rfl⟩) (gq_preS hK [] rfl hP hD [] rfl rfl hnw) rfl rfl hl.1 rfl (lv_room (Nat.le_of_ble_eq_true rfl)) dX5_best_4 ⟨Nat.zero_le _, Nat.zero_le _⟩) hP hD hS hA [] [0, 1, 2, 3, 4, 5, 6, 7, 8, 9, 10, 11, 12, 13, 14] rfl rfl rfl (by decide) [0, 1, 2, 3, 4, 5, 6, 7, 8, 9, 10, 11, 12, 13, 14] rfl (fun _ => rfl) (fun r1 _ H locs hw hP hD hS => ?_)
  refine lv_if_eq (tgt := 30) hx hb dX5_best_7 (by decide) (fun c2 => ?_) (fun c2 => ?_)
  · have hw := gq_t c2 hw
    refine lv_iconst (v := (-1)) hx hb dX5_best_30 (by decide) ?_
    exact hz (-1) (Mw, Mwl, Mws, Mf, Mpa, Mne) _ _ _ _ dX5_best_31 hw hP hD hS
  · have hw := gq_f c2 hw
    refine lv_iload_n hx hb dX5_best_10 rfl (lv_at hl 2 rfl) ?_
    refine lv_if_lt (tgt := 30) hx hb dX5_best_11 (by decide) (fun c3 => ?_) (fun c3 => ?_)
    · have hw := gq_t c3 hw
      refine lv_iconst (v := (-1)) hx hb dX5_best_30 (by decide) ?_
      exact hz (-1) (Mw, Mwl, Mws, Mf, Mpa, Mne) _ _ _ _ dX5_best_31 hw hP hD hS
    · have hw := gq_f c3 hw
      refine lv_iload_n hx hb dX5_best_14 rfl (lv_at hl 3 rfl) ?_
      refine lv_iconst (v := 0) hx hb dX5_best_15 (by decide) ?_
      refine lv_iconst (v := 2) hx hb dX5_best_16 (by decide) ?_
      refine gq_calli (wsN := fun _ => (wdM ad ck Mp Mv Mb Me Md Mdo Mk Mm Mta Mkn Mti Mrl Mrr Mt Mn Mw Mwl Mws Mf Mpa Mne)) (va_runS (As := [.int p3, .int 0, .int 2]) (rest := []) ⟨hx, hb, hml, hown, hts⟩ (c_X5_isIn l D H.size p3 0 2 _ hw) (va_cwS 3 hts gX5_best_X5_isIn rfl rfl rfl (by decide +kernel) ⟨Nat.le_of_ble_eq_true rfl, Nat.le_of_ble_eq_true rfl⟩) (gq_preS hK [] rfl hP hD [] rfl rfl hnw) rfl rfl hl.1 rfl (lv_room (Nat.le_of_ble_eq_true rfl)) dX5_best_17 ⟨Nat.zero_le _, Nat.zero_le _⟩) hP hD hS hA [] [0, 1, 2, 3, 4, 5, 6, 7, 8, 9, 10, 11, 12, 13, 14] rfl rfl rfl (by decide) [0, 1, 2, 3, 4, 5, 6, 7, 8, 9, 10, 11, 12, 13, 14] rfl (fun _ => rfl) (fun r4 _ H locs hw hP hD hS => ?_)
      refine lv_if_eq (tgt := 30) hx hb dX5_best_20 (by decide) (fun c5 => ?_) (fun c5 => ?_)
      · have hw := gq_t c5 hw
        refine lv_iconst (v := (-1)) hx hb dX5_best_30 (by decide) ?_
        exact hz (-1) (Mw, Mwl, Mws, Mf, Mpa, Mne) _ _ _ _ dX5_best_31 hw hP hD hS
      · have hw := gq_f c5 hw
        refine lv_aload_n hx hb dX5_best_23 rfl (lv_at hl 0 rfl) ?_
        refine gq_calli (wsN := fun u => (wdM ad ck Mp Mv Mb Me Md Mdo Mk Mm Mta Mkn Mti Mrl Mrr Mt Mn u.1 u.2.1 u.2.2.1 u.2.2.2.1 u.2.2.2.2.1 u.2.2.2.2.2)) (va_runV (As := []) (rest := []) ⟨hx, hb, hml, hown, hts⟩ (c_X5_finds l D ad ck H.size Mp Mv Mb Me Md Mdo Mk Mm Mta Mkn Mti Mrl Mrr Mt Mn Mw Mwl Mws Mf Mpa Mne  _ hw) (cwV 0 hts gX5_best_X5_finds rfl rfl rfl (by decide +kernel) ⟨Nat.le_of_ble_eq_true rfl, Nat.le_of_ble_eq_true rfl⟩) (gq_preV hK [0, 1, 2, 3, 4, 5, 6, 7, 8, 9, 10, 11, 12, 13] rfl hP hD [0, 1, 2, 3, 4, 5, 6, 7, 8, 9, 10, 11, 12, 13, 14] rfl rfl hnw 5 0 rfl rfl) rfl rfl hl.1 rfl (lv_room (Nat.le_of_ble_eq_true rfl)) dX5_best_24 ⟨Nat.zero_le _, Nat.zero_le _⟩) hP hD hS hA [0, 1, 2, 3, 4, 5, 6, 7, 8, 9, 10, 11, 12, 13, 14] [] rfl rfl rfl (by decide) [0, 1, 2, 3, 4, 5, 6, 7, 8, 9, 10, 11, 12, 13, 14] rfl (fun _ => rfl) (fun r6 u_ H locs hw hP hD hS => ?_)
        obtain ⟨Mw_7, Mwl_8, Mws_9, Mf_10, Mpa_11, Mne_12⟩ := u_
        have hP : va_P D vwCl (wdM ad ck Mp Mv Mb Me Md Mdo Mk Mm Mta Mkn Mti Mrl Mrr Mt Mn Mw_7 Mwl_8 Mws_9 Mf_10 Mpa_11 Mne_12) H := hP
        have hD : va_D A (wdM ad ck Mp Mv Mb Me Md Mdo Mk Mm Mta Mkn Mti Mrl Mrr Mt Mn Mw_7 Mwl_8 Mws_9 Mf_10 Mpa_11 Mne_12) := hD
        refine lv_if_ne (tgt := 32) hx hb dX5_best_27 (by decide) (fun c13 => ?_) (fun c13 => ?_)
        · have hw := gq_f c13 hw
          refine lv_iconst (v := 0) hx hb dX5_best_32 (by decide) ?_
          refine lv_istore (lv' := [(4, .int 0), (0, .ref (ad 16)), (1, .int p1), (2, .int p2), (3, .int p3)]) hx hb dX5_best_33 hl (by decide) rfl (fun ls hl => ?_)
          refine lv_iconst (v := 0) hx hb dX5_best_35 (by decide) ?_
          refine lv_istore (lv' := [(5, .int 0), (4, .int 0), (0, .ref (ad 16)), (1, .int p1), (2, .int p2), (3, .int p3)]) hx hb dX5_best_36 hl (by decide) rfl (fun ls hl => ?_)
          refine lv_iconst (v := 1) hx hb dX5_best_38 (by decide) ?_
          refine lv_istore (lv' := [(6, .int 1), (5, .int 0), (4, .int 0), (0, .ref (ad 16)), (1, .int p1), (2, .int p2), (3, .int p3)]) hx hb dX5_best_39 hl (by decide) rfl (fun ls hl => ?_)
          have hL41 : ∀ (X175 : Int32 → Int32 → Int32 → Prop), (∀ (x14 : Int32) (x15 : Int32) (x16 : Int32) (H : Heap) (locs : List Loc), X175 x14 x15 x16 → va_P D vwCl (wdM ad ck Mp Mv Mb Me Md Mdo Mk Mm Mta Mkn Mti Mrl Mrr Mt Mn Mw_7 Mwl_8 Mws_9 Mf_10 Mpa_11 Mne_12) H → va_D A (wdM ad ck Mp Mv Mb Me Md Mdo Mk Mm Mta Mkn Mti Mrl Mrr Mt Mn Mw_7 Mwl_8 Mws_9 Mf_10 Mpa_11 Mne_12) → va_S A s.heap H locs → ∀ ls : Array Slot, lv_has ls 9 [(0, .ref (ad 16)), (1, .int p1), (2, .int p2), (3, .int p3), (4, .int x14), (5, .int x15), (6, .int x16)] → W p l e { frames := 2, cells := 0, slots := 0, locals := 47 } s m ([.ref (ad 16), .int p1, .int p2, .int p3] : List Value).toArray below meth c H locs 0 0 Q (F0 m 175 ls [])) → ∀ (n : Nat) (x14 : Int32) (x15 : Int32) (x16 : Int32) (H : Heap) (locs : List Loc), wl_X5_best_41 p1 p2 Mp Me Mk Mkn Mti Mrl Mrr Mws_9 Mf_10 X175 n x14 x15 x16 → va_P D vwCl (wdM ad ck Mp Mv Mb Me Md Mdo Mk Mm Mta Mkn Mti Mrl Mrr Mt Mn Mw_7 Mwl_8 Mws_9 Mf_10 Mpa_11 Mne_12) H → va_D A (wdM ad ck Mp Mv Mb Me Md Mdo Mk Mm Mta Mkn Mti Mrl Mrr Mt Mn Mw_7 Mwl_8 Mws_9 Mf_10 Mpa_11 Mne_12) → va_S A s.heap H locs → ∀ ls : Array Slot, lv_has ls 9 [(0, .ref (ad 16)), (1, .int p1), (2, .int p2), (3, .int p3), (4, .int x14), (5, .int x15), (6, .int x16)] → W p l e { frames := 2, cells := 0, slots := 0, locals := 47 } s m ([.ref (ad 16), .int p1, .int p2, .int p3] : List Value).toArray below meth c H locs 0 0 Q (F0 m 41 ls []) := by
            intro X175 hX175
            intro n
            induction n with
            | zero =>
              intro x14 x15 x16 H locs hw
              exact hw.elim
            | succ n ih =>
              intro x14 x15 x16 H locs hw hP hD hS ls hl
              refine lv_iload hx hb dX5_best_41 (lv_at hl 6 rfl) ?_
              refine lv_iconst (v := 1) hx hb dX5_best_43 (by decide) ?_
              refine lv_aload_n hx hb dX5_best_44 rfl (lv_at hl 0 rfl) ?_
              refine va_get (D := D) (ci := 5) (v := .int Mp) (C := RX5) (T := TX5) (N := 21) hx hb hts iX5_best_X5 hown hK hP 0 rfl rfl 0 (by decide) (hts (.fieldLink RX5 7 "DecoyHouseModel" "places" "I") (by decide +kernel)) (fun _ h9 => h9) rfl dX5_best_45 ?_
              refine lv_ishl hx hb dX5_best_48 ?_
              refine lv_icmp_ge (tgt := 175) hx hb dX5_best_49 (by decide) (fun c17 => ?_) (fun c17 => ?_)
              · have hw := gq_t c17 hw
                exact hX175 x14 x15 x16 _ _ hw hP hD hS ls (lv_sub hl [0, 1, 2, 3, 4, 5, 6] rfl)
              · have hw := gq_f c17 hw
                refine lv_iload hx hb dX5_best_52 (lv_at hl 6 rfl) ?_
                refine gq_calli (wsN := fun _ => (wdM ad ck Mp Mv Mb Me Md Mdo Mk Mm Mta Mkn Mti Mrl Mrr Mt Mn Mw_7 Mwl_8 Mws_9 Mf_10 Mpa_11 Mne_12)) (va_runS (As := [.int x16]) (rest := []) ⟨hx, hb, hml, hown, hts⟩ (c_X5_bits l D H.size x16 _ hw) (va_cwS 1 hts gX5_best_X5_bits rfl rfl rfl (by decide +kernel) ⟨Nat.le_of_ble_eq_true rfl, Nat.le_of_ble_eq_true rfl⟩) (gq_preS hK [] rfl hP hD [] rfl rfl hnw) rfl rfl hl.1 rfl (lv_room (Nat.le_of_ble_eq_true rfl)) dX5_best_54 ⟨Nat.zero_le _, Nat.zero_le _⟩) hP hD hS hA [] [0, 1, 2, 3, 4, 5, 6, 7, 8, 9, 10, 11, 12, 13, 14] rfl rfl rfl (by decide) [0, 1, 2, 3, 4, 5, 6, 7, 8, 9, 10, 11, 12, 13, 14] rfl (fun _ => rfl) (fun r18 _ H locs hw hP hD hS => ?_)
                refine lv_iload_n hx hb dX5_best_57 rfl (lv_at hl 1 rfl) ?_
                refine lv_icmp_gt (tgt := 169) hx hb dX5_best_58 (by decide) (fun c19 => ?_) (fun c19 => ?_)
                · have hw := gq_t c19 hw
                  obtain ⟨v20, ev20⟩ : ∃ y : Int32, y = x16 + 1 := ⟨_, rfl⟩
                  have hw := gq_at1 hw ev20
                  refine lv_iinc (v := v20) (lv' := [(6, .int v20), (0, .ref (ad 16)), (1, .int p1), (2, .int p2), (3, .int p3), (4, .int x14), (5, .int x15)]) hx hb dX5_best_169 hl (k := 6) rfl (by rw [ev20]; rfl) (by decide) rfl (fun ls hl => ?_)
                  refine lv_goto (tgt := 41) hx hb dX5_best_172 (by decide) ?_
                  exact ih x14 x15 v20 _ _ hw hP hD hS ls (lv_sub hl [1, 2, 3, 4, 5, 6, 0] rfl)
                · have hw := gq_f c19 hw
                  refine lv_aload_n hx hb dX5_best_61 rfl (lv_at hl 0 rfl) ?_
                  refine lv_iload hx hb dX5_best_62 (lv_at hl 6 rfl) ?_
                  refine gq_calli (wsN := fun _ => (wdM ad ck Mp Mv Mb Me Md Mdo Mk Mm Mta Mkn Mti Mrl Mrr Mt Mn Mw_7 Mwl_8 Mws_9 Mf_10 Mpa_11 Mne_12)) (va_runV (As := [.int x16]) (rest := []) ⟨hx, hb, hml, hown, hts⟩ (c_X5_honestOf l D ad ck H.size Mp Mv Mb Me Md Mdo Mk Mm Mta Mkn Mti Mrl Mrr Mt Mn Mw_7 Mwl_8 Mws_9 Mf_10 Mpa_11 Mne_12 x16 _ hw) (cwV 1 hts gX5_best_X5_honestOf rfl rfl rfl (by decide +kernel) ⟨Nat.le_of_ble_eq_true rfl, Nat.le_of_ble_eq_true rfl⟩) (gq_preV hK [0, 1, 2, 3, 4, 5, 6, 7, 8, 9, 10, 11, 12, 13] rfl hP hD [0, 1, 2, 3, 4, 5, 6, 7, 8, 9, 10, 11, 12, 13, 14] rfl rfl hnw 5 0 rfl rfl) rfl rfl hl.1 rfl (lv_room (Nat.le_of_ble_eq_true rfl)) dX5_best_64 ⟨Nat.zero_le _, Nat.zero_le _⟩) hP hD hS hA [0, 1, 2, 3, 4, 5, 6, 7, 8, 9, 10, 11, 12, 13, 14] [] rfl rfl rfl (by decide) [0, 1, 2, 3, 4, 5, 6, 7, 8, 9, 10, 11, 12, 13, 14] rfl (fun _ => rfl) (fun r21 _ H locs hw hP hD hS => ?_)
                  refine lv_iload_n hx hb dX5_best_67 rfl (lv_at hl 2 rfl) ?_
                  refine lv_icmp_gt (tgt := 169) hx hb dX5_best_68 (by decide) (fun c22 => ?_) (fun c22 => ?_)
                  · have hw := gq_t c22 hw
                    obtain ⟨v23, ev23⟩ : ∃ y : Int32, y = x16 + 1 := ⟨_, rfl⟩
                    have hw := gq_at1 hw ev23
                    refine lv_iinc (v := v23) (lv' := [(6, .int v23), (0, .ref (ad 16)), (1, .int p1), (2, .int p2), (3, .int p3), (4, .int x14), (5, .int x15)]) hx hb dX5_best_169 hl (k := 6) rfl (by rw [ev23]; rfl) (by decide) rfl (fun ls hl => ?_)
                    refine lv_goto (tgt := 41) hx hb dX5_best_172 (by decide) ?_
                    exact ih x14 x15 v23 _ _ hw hP hD hS ls (lv_sub hl [1, 2, 3, 4, 5, 6, 0] rfl)
                  · have hw := gq_f c22 hw
                    refine lv_aload_n hx hb dX5_best_71 rfl (lv_at hl 0 rfl) ?_
                    refine lv_iload hx hb dX5_best_72 (lv_at hl 6 rfl) ?_
                    refine gq_calli (wsN := fun _ => (wdM ad ck Mp Mv Mb Me Md Mdo Mk Mm Mta Mkn Mti Mrl Mrr Mt Mn Mw_7 Mwl_8 Mws_9 Mf_10 Mpa_11 Mne_12)) (va_runV (As := [.int x16]) (rest := []) ⟨hx, hb, hml, hown, hts⟩ (c_X5_isFree l D ad ck H.size Mp Mv Mb Me Md Mdo Mk Mm Mta Mkn Mti Mrl Mrr Mt Mn Mw_7 Mwl_8 Mws_9 Mf_10 Mpa_11 Mne_12 x16 _ hw) (cwV 1 hts gX5_best_X5_isFree rfl rfl rfl (by decide +kernel) ⟨Nat.le_of_ble_eq_true rfl, Nat.le_of_ble_eq_true rfl⟩) (gq_preV hK [0, 1, 2, 3, 4, 5, 6, 7, 8, 9, 10, 11, 12, 13] rfl hP hD [0, 1, 2, 3, 4, 5, 6, 7, 8, 9, 10, 11, 12, 13, 14] rfl rfl hnw 5 0 rfl rfl) rfl rfl hl.1 rfl (lv_room (Nat.le_of_ble_eq_true rfl)) dX5_best_74 ⟨Nat.zero_le _, Nat.zero_le _⟩) hP hD hS hA [0, 1, 2, 3, 4, 5, 6, 7, 8, 9, 10, 11, 12, 13, 14] [] rfl rfl rfl (by decide) [0, 1, 2, 3, 4, 5, 6, 7, 8, 9, 10, 11, 12, 13, 14] rfl (fun _ => rfl) (fun r24 _ H locs hw hP hD hS => ?_)
                    refine lv_if_ne (tgt := 83) hx hb dX5_best_77 (by decide) (fun c25 => ?_) (fun c25 => ?_)
                    · have hw := gq_f c25 hw
                      refine lv_aload_n hx hb dX5_best_83 rfl (lv_at hl 0 rfl) ?_
                      refine lv_iload hx hb dX5_best_84 (lv_at hl 6 rfl) ?_
                      refine gq_calli (wsN := fun _ => (wdM ad ck Mp Mv Mb Me Md Mdo Mk Mm Mta Mkn Mti Mrl Mrr Mt Mn Mw_7 Mwl_8 Mws_9 Mf_10 Mpa_11 Mne_12)) (va_runV (As := [.int x16]) (rest := []) ⟨hx, hb, hml, hown, hts⟩ (c_X5_touchedBy l D ad ck H.size Mp Mv Mb Me Md Mdo Mk Mm Mta Mkn Mti Mrl Mrr Mt Mn Mw_7 Mwl_8 Mws_9 Mf_10 Mpa_11 Mne_12 x16 _ hw) (cwV 1 hts gX5_best_X5_touchedBy rfl rfl rfl (by decide +kernel) ⟨Nat.le_of_ble_eq_true rfl, Nat.le_of_ble_eq_true rfl⟩) (gq_preV hK [0, 1, 2, 3, 4, 5, 6, 7, 8, 9, 10, 11, 12, 13] rfl hP hD [0, 1, 2, 3, 4, 5, 6, 7, 8, 9, 10, 11, 12, 13, 14] rfl rfl hnw 5 0 rfl rfl) rfl rfl hl.1 rfl (lv_room (Nat.le_of_ble_eq_true rfl)) dX5_best_86 ⟨Nat.zero_le _, Nat.zero_le _⟩) hP hD hS hA [0, 1, 2, 3, 4, 5, 6, 7, 8, 9, 10, 11, 12, 13, 14] [] rfl rfl rfl (by decide) [0, 1, 2, 3, 4, 5, 6, 7, 8, 9, 10, 11, 12, 13, 14] rfl (fun _ => rfl) (fun r26 _ H locs hw hP hD hS => ?_)
                      refine lv_istore (lv' := [(7, .int r26), (0, .ref (ad 16)), (1, .int p1), (2, .int p2), (3, .int p3), (4, .int x14), (5, .int x15), (6, .int x16)]) hx hb dX5_best_89 hl (by decide) rfl (fun ls hl => ?_)
                      refine lv_iload hx hb dX5_best_91 (lv_at hl 0 rfl) ?_
                      refine lv_iload hx hb dX5_best_93 (lv_at hl 6 rfl) ?_
                      refine lv_icmp_gt (tgt := 146) hx hb dX5_best_95 (by decide) (fun c27 => ?_) (fun c27 => ?_)
                      · have hw := gq_t c27 hw
                        refine lv_iconst (v := 1) hx hb dX5_best_146 (by decide) ?_
                        refine lv_goto (tgt := 151) hx hb dX5_best_147 (by decide) ?_
                        refine lv_istore (lv' := [(8, .int 1), (7, .int r26), (0, .ref (ad 16)), (1, .int p1), (2, .int p2), (3, .int p3), (4, .int x14), (5, .int x15), (6, .int x16)]) hx hb dX5_best_151 hl (by decide) rfl (fun ls hl => ?_)
                        refine lv_iload hx hb dX5_best_153 (lv_at hl 0 rfl) ?_
                        refine lv_if_ne (tgt := 161) hx hb dX5_best_155 (by decide) (fun c28 => ?_) (fun c28 => ?_)
                        · have hw := gq_f c28 hw
                          refine lv_iload hx hb dX5_best_161 (lv_at hl 8 rfl) ?_
                          refine lv_istore (lv' := [(4, .int x16), (8, .int 1), (7, .int r26), (0, .ref (ad 16)), (1, .int p1), (2, .int p2), (3, .int p3), (5, .int x15), (6, .int x16)]) hx hb dX5_best_163 hl (by decide) rfl (fun ls hl => ?_)
                          refine lv_iload hx hb dX5_best_165 (lv_at hl 2 rfl) ?_
                          refine lv_istore (lv' := [(5, .int r26), (4, .int x16), (8, .int 1), (7, .int r26), (0, .ref (ad 16)), (1, .int p1), (2, .int p2), (3, .int p3), (6, .int x16)]) hx hb dX5_best_167 hl (by decide) rfl (fun ls hl => ?_)
                          obtain ⟨v29, ev29⟩ : ∃ y : Int32, y = x16 + 1 := ⟨_, rfl⟩
                          have hw := gq_at1 hw ev29
                          refine lv_iinc (v := v29) (lv' := [(6, .int v29), (5, .int r26), (4, .int x16), (8, .int 1), (7, .int r26), (0, .ref (ad 16)), (1, .int p1), (2, .int p2), (3, .int p3)]) hx hb dX5_best_169 hl (k := 8) rfl (by rw [ev29]; rfl) (by decide) rfl (fun ls hl => ?_)
                          refine lv_goto (tgt := 41) hx hb dX5_best_172 (by decide) ?_
                          exact ih x16 r26 v29 _ _ hw hP hD hS ls (lv_sub hl [5, 6, 7, 8, 2, 1, 0] rfl)
                        · have hw := gq_t c28 hw
                          refine lv_goto (tgt := 169) hx hb dX5_best_158 (by decide) ?_
                          obtain ⟨v30, ev30⟩ : ∃ y : Int32, y = x16 + 1 := ⟨_, rfl⟩
                          have hw := gq_at1 hw ev30
                          refine lv_iinc (v := v30) (lv' := [(6, .int v30), (8, .int 1), (7, .int r26), (0, .ref (ad 16)), (1, .int p1), (2, .int p2), (3, .int p3), (4, .int x14), (5, .int x15)]) hx hb dX5_best_169 hl (k := 8) rfl (by rw [ev30]; rfl) (by decide) rfl (fun ls hl => ?_)
                          refine lv_goto (tgt := 41) hx hb dX5_best_172 (by decide) ?_
                          exact ih x14 x15 v30 _ _ hw hP hD hS ls (lv_sub hl [3, 4, 5, 6, 7, 8, 0] rfl)
                      · have hw := gq_f c27 hw
                        refine lv_iload hx hb dX5_best_98 (lv_at hl 0 rfl) ?_
                        refine lv_iload hx hb dX5_best_100 (lv_at hl 6 rfl) ?_
                        refine lv_icmp_ne (tgt := 150) hx hb dX5_best_102 (by decide) (fun c31 => ?_) (fun c31 => ?_)
                        · have hw := gq_f c31 hw
                          refine lv_iconst (v := 0) hx hb dX5_best_150 (by decide) ?_
                          refine lv_istore (lv' := [(8, .int 0), (7, .int r26), (0, .ref (ad 16)), (1, .int p1), (2, .int p2), (3, .int p3), (4, .int x14), (5, .int x15), (6, .int x16)]) hx hb dX5_best_151 hl (by decide) rfl (fun ls hl => ?_)
                          refine lv_iload hx hb dX5_best_153 (lv_at hl 0 rfl) ?_
                          refine lv_if_ne (tgt := 161) hx hb dX5_best_155 (by decide) (fun c32 => ?_) (fun c32 => ?_)
                          · have hw := gq_f c32 hw
                            refine lv_iload hx hb dX5_best_161 (lv_at hl 8 rfl) ?_
                            refine lv_istore (lv' := [(4, .int x16), (8, .int 0), (7, .int r26), (0, .ref (ad 16)), (1, .int p1), (2, .int p2), (3, .int p3), (5, .int x15), (6, .int x16)]) hx hb dX5_best_163 hl (by decide) rfl (fun ls hl => ?_)
                            refine lv_iload hx hb dX5_best_165 (lv_at hl 2 rfl) ?_
                            refine lv_istore (lv' := [(5, .int r26), (4, .int x16), (8, .int 0), (7, .int r26), (0, .ref (ad 16)), (1, .int p1), (2, .int p2), (3, .int p3), (6, .int x16)]) hx hb dX5_best_167 hl (by decide) rfl (fun ls hl => ?_)
                            obtain ⟨v33, ev33⟩ : ∃ y : Int32, y = x16 + 1 := ⟨_, rfl⟩
                            have hw := gq_at1 hw ev33
                            refine lv_iinc (v := v33) (lv' := [(6, .int v33), (5, .int r26), (4, .int x16), (8, .int 0), (7, .int r26), (0, .ref (ad 16)), (1, .int p1), (2, .int p2), (3, .int p3)]) hx hb dX5_best_169 hl (k := 8) rfl (by rw [ev33]; rfl) (by decide) rfl (fun ls hl => ?_)
                            refine lv_goto (tgt := 41) hx hb dX5_best_172 (by decide) ?_
                            exact ih x16 r26 v33 _ _ hw hP hD hS ls (lv_sub hl [5, 6, 7, 8, 2, 1, 0] rfl)
                          · have hw := gq_t c32 hw
                            refine lv_goto (tgt := 169) hx hb dX5_best_158 (by decide) ?_
                            obtain ⟨v34, ev34⟩ : ∃ y : Int32, y = x16 + 1 := ⟨_, rfl⟩
                            have hw := gq_at1 hw ev34
                            refine lv_iinc (v := v34) (lv' := [(6, .int v34), (8, .int 0), (7, .int r26), (0, .ref (ad 16)), (1, .int p1), (2, .int p2), (3, .int p3), (4, .int x14), (5, .int x15)]) hx hb dX5_best_169 hl (k := 8) rfl (by rw [ev34]; rfl) (by decide) rfl (fun ls hl => ?_)
                            refine lv_goto (tgt := 41) hx hb dX5_best_172 (by decide) ?_
                            exact ih x14 x15 v34 _ _ hw hP hD hS ls (lv_sub hl [3, 4, 5, 6, 7, 8, 0] rfl)
                        · have hw := gq_t c31 hw
                          refine lv_iload hx hb dX5_best_105 (lv_at hl 7 rfl) ?_
                          refine gq_calli (wsN := fun _ => (wdM ad ck Mp Mv Mb Me Md Mdo Mk Mm Mta Mkn Mti Mrl Mrr Mt Mn Mw_7 Mwl_8 Mws_9 Mf_10 Mpa_11 Mne_12)) (va_runS (As := [.int x16]) (rest := []) ⟨hx, hb, hml, hown, hts⟩ (c_X5_bits l D H.size x16 _ hw) (va_cwS 1 hts gX5_best_X5_bits rfl rfl rfl (by decide +kernel) ⟨Nat.le_of_ble_eq_true rfl, Nat.le_of_ble_eq_true rfl⟩) (gq_preS hK [] rfl hP hD [] rfl rfl hnw) rfl rfl hl.1 rfl (lv_room (Nat.le_of_ble_eq_true rfl)) dX5_best_107 ⟨Nat.zero_le _, Nat.zero_le _⟩) hP hD hS hA [] [0, 1, 2, 3, 4, 5, 6, 7, 8, 9, 10, 11, 12, 13, 14] rfl rfl rfl (by decide) [0, 1, 2, 3, 4, 5, 6, 7, 8, 9, 10, 11, 12, 13, 14] rfl (fun _ => rfl) (fun r35 _ H locs hw hP hD hS => ?_)
                          refine lv_iload hx hb dX5_best_110 (lv_at hl 5 rfl) ?_
                          refine gq_calli (wsN := fun _ => (wdM ad ck Mp Mv Mb Me Md Mdo Mk Mm Mta Mkn Mti Mrl Mrr Mt Mn Mw_7 Mwl_8 Mws_9 Mf_10 Mpa_11 Mne_12)) (va_runS (As := [.int x14]) (rest := [.int r35]) ⟨hx, hb, hml, hown, hts⟩ (c_X5_bits l D H.size x14 _ hw) (va_cwS 1 hts gX5_best_X5_bits rfl rfl rfl (by decide +kernel) ⟨Nat.le_of_ble_eq_true rfl, Nat.le_of_ble_eq_true rfl⟩) (gq_preS hK [] rfl hP hD [] rfl rfl hnw) rfl rfl hl.1 rfl (lv_room (Nat.le_of_ble_eq_true rfl)) dX5_best_112 ⟨Nat.zero_le _, Nat.zero_le _⟩) hP hD hS hA [] [0, 1, 2, 3, 4, 5, 6, 7, 8, 9, 10, 11, 12, 13, 14] rfl rfl rfl (by decide) [0, 1, 2, 3, 4, 5, 6, 7, 8, 9, 10, 11, 12, 13, 14] rfl (fun _ => rfl) (fun r36 _ H locs hw hP hD hS => ?_)
                          refine lv_icmp_lt (tgt := 146) hx hb dX5_best_115 (by decide) (fun c37 => ?_) (fun c37 => ?_)
                          · have hw := gq_t c37 hw
                            refine lv_iconst (v := 1) hx hb dX5_best_146 (by decide) ?_
                            refine lv_goto (tgt := 151) hx hb dX5_best_147 (by decide) ?_
                            refine lv_istore (lv' := [(8, .int 1), (7, .int r26), (0, .ref (ad 16)), (1, .int p1), (2, .int p2), (3, .int p3), (4, .int x14), (5, .int x15), (6, .int x16)]) hx hb dX5_best_151 hl (by decide) rfl (fun ls hl => ?_)
                            refine lv_iload hx hb dX5_best_153 (lv_at hl 0 rfl) ?_
                            refine lv_if_ne (tgt := 161) hx hb dX5_best_155 (by decide) (fun c38 => ?_) (fun c38 => ?_)
                            · have hw := gq_f c38 hw
                              refine lv_iload hx hb dX5_best_161 (lv_at hl 8 rfl) ?_
                              refine lv_istore (lv' := [(4, .int x16), (8, .int 1), (7, .int r26), (0, .ref (ad 16)), (1, .int p1), (2, .int p2), (3, .int p3), (5, .int x15), (6, .int x16)]) hx hb dX5_best_163 hl (by decide) rfl (fun ls hl => ?_)
                              refine lv_iload hx hb dX5_best_165 (lv_at hl 2 rfl) ?_
                              refine lv_istore (lv' := [(5, .int r26), (4, .int x16), (8, .int 1), (7, .int r26), (0, .ref (ad 16)), (1, .int p1), (2, .int p2), (3, .int p3), (6, .int x16)]) hx hb dX5_best_167 hl (by decide) rfl (fun ls hl => ?_)
                              obtain ⟨v39, ev39⟩ : ∃ y : Int32, y = x16 + 1 := ⟨_, rfl⟩
                              have hw := gq_at1 hw ev39
                              refine lv_iinc (v := v39) (lv' := [(6, .int v39), (5, .int r26), (4, .int x16), (8, .int 1), (7, .int r26), (0, .ref (ad 16)), (1, .int p1), (2, .int p2), (3, .int p3)]) hx hb dX5_best_169 hl (k := 8) rfl (by rw [ev39]; rfl) (by decide) rfl (fun ls hl => ?_)
                              refine lv_goto (tgt := 41) hx hb dX5_best_172 (by decide) ?_
                              exact ih x16 r26 v39 _ _ hw hP hD hS ls (lv_sub hl [5, 6, 7, 8, 2, 1, 0] rfl)
                            · have hw := gq_t c38 hw
                              refine lv_goto (tgt := 169) hx hb dX5_best_158 (by decide) ?_
                              obtain ⟨v40, ev40⟩ : ∃ y : Int32, y = x16 + 1 := ⟨_, rfl⟩
                              have hw := gq_at1 hw ev40
                              refine lv_iinc (v := v40) (lv' := [(6, .int v40), (8, .int 1), (7, .int r26), (0, .ref (ad 16)), (1, .int p1), (2, .int p2), (3, .int p3), (4, .int x14), (5, .int x15)]) hx hb dX5_best_169 hl (k := 8) rfl (by rw [ev40]; rfl) (by decide) rfl (fun ls hl => ?_)
                              refine lv_goto (tgt := 41) hx hb dX5_best_172 (by decide) ?_
                              exact ih x14 x15 v40 _ _ hw hP hD hS ls (lv_sub hl [3, 4, 5, 6, 7, 8, 0] rfl)
                          · have hw := gq_f c37 hw
                            refine lv_iload hx hb dX5_best_118 (lv_at hl 7 rfl) ?_
                            refine gq_calli (wsN := fun _ => (wdM ad ck Mp Mv Mb Me Md Mdo Mk Mm Mta Mkn Mti Mrl Mrr Mt Mn Mw_7 Mwl_8 Mws_9 Mf_10 Mpa_11 Mne_12)) (va_runS (As := [.int x16]) (rest := []) ⟨hx, hb, hml, hown, hts⟩ (c_X5_bits l D H.size x16 _ hw) (va_cwS 1 hts gX5_best_X5_bits rfl rfl rfl (by decide +kernel) ⟨Nat.le_of_ble_eq_true rfl, Nat.le_of_ble_eq_true rfl⟩) (gq_preS hK [] rfl hP hD [] rfl rfl hnw) rfl rfl hl.1 rfl (lv_room (Nat.le_of_ble_eq_true rfl)) dX5_best_120 ⟨Nat.zero_le _, Nat.zero_le _⟩) hP hD hS hA [] [0, 1, 2, 3, 4, 5, 6, 7, 8, 9, 10, 11, 12, 13, 14] rfl rfl rfl (by decide) [0, 1, 2, 3, 4, 5, 6, 7, 8, 9, 10, 11, 12, 13, 14] rfl (fun _ => rfl) (fun r41 _ H locs hw hP hD hS => ?_)
                            refine lv_iload hx hb dX5_best_123 (lv_at hl 5 rfl) ?_
                            refine gq_calli (wsN := fun _ => (wdM ad ck Mp Mv Mb Me Md Mdo Mk Mm Mta Mkn Mti Mrl Mrr Mt Mn Mw_7 Mwl_8 Mws_9 Mf_10 Mpa_11 Mne_12)) (va_runS (As := [.int x14]) (rest := [.int r41]) ⟨hx, hb, hml, hown, hts⟩ (c_X5_bits l D H.size x14 _ hw) (va_cwS 1 hts gX5_best_X5_bits rfl rfl rfl (by decide +kernel) ⟨Nat.le_of_ble_eq_true rfl, Nat.le_of_ble_eq_true rfl⟩) (gq_preS hK [] rfl hP hD [] rfl rfl hnw) rfl rfl hl.1 rfl (lv_room (Nat.le_of_ble_eq_true rfl)) dX5_best_125 ⟨Nat.zero_le _, Nat.zero_le _⟩) hP hD hS hA [] [0, 1, 2, 3, 4, 5, 6, 7, 8, 9, 10, 11, 12, 13, 14] rfl rfl rfl (by decide) [0, 1, 2, 3, 4, 5, 6, 7, 8, 9, 10, 11, 12, 13, 14] rfl (fun _ => rfl) (fun r42 _ H locs hw hP hD hS => ?_)
                            refine lv_icmp_ne (tgt := 150) hx hb dX5_best_128 (by decide) (fun c43 => ?_) (fun c43 => ?_)
                            · have hw := gq_f c43 hw
                              refine lv_iconst (v := 0) hx hb dX5_best_150 (by decide) ?_
                              refine lv_istore (lv' := [(8, .int 0), (7, .int r26), (0, .ref (ad 16)), (1, .int p1), (2, .int p2), (3, .int p3), (4, .int x14), (5, .int x15), (6, .int x16)]) hx hb dX5_best_151 hl (by decide) rfl (fun ls hl => ?_)
                              refine lv_iload hx hb dX5_best_153 (lv_at hl 0 rfl) ?_
                              refine lv_if_ne (tgt := 161) hx hb dX5_best_155 (by decide) (fun c44 => ?_) (fun c44 => ?_)
                              · have hw := gq_f c44 hw
                                refine lv_iload hx hb dX5_best_161 (lv_at hl 8 rfl) ?_
                                refine lv_istore (lv' := [(4, .int x16), (8, .int 0), (7, .int r26), (0, .ref (ad 16)), (1, .int p1), (2, .int p2), (3, .int p3), (5, .int x15), (6, .int x16)]) hx hb dX5_best_163 hl (by decide) rfl (fun ls hl => ?_)
                                refine lv_iload hx hb dX5_best_165 (lv_at hl 2 rfl) ?_
                                refine lv_istore (lv' := [(5, .int r26), (4, .int x16), (8, .int 0), (7, .int r26), (0, .ref (ad 16)), (1, .int p1), (2, .int p2), (3, .int p3), (6, .int x16)]) hx hb dX5_best_167 hl (by decide) rfl (fun ls hl => ?_)
                                obtain ⟨v45, ev45⟩ : ∃ y : Int32, y = x16 + 1 := ⟨_, rfl⟩
                                have hw := gq_at1 hw ev45
                                refine lv_iinc (v := v45) (lv' := [(6, .int v45), (5, .int r26), (4, .int x16), (8, .int 0), (7, .int r26), (0, .ref (ad 16)), (1, .int p1), (2, .int p2), (3, .int p3)]) hx hb dX5_best_169 hl (k := 8) rfl (by rw [ev45]; rfl) (by decide) rfl (fun ls hl => ?_)
                                refine lv_goto (tgt := 41) hx hb dX5_best_172 (by decide) ?_
                                exact ih x16 r26 v45 _ _ hw hP hD hS ls (lv_sub hl [5, 6, 7, 8, 2, 1, 0] rfl)
                              · have hw := gq_t c44 hw
                                refine lv_goto (tgt := 169) hx hb dX5_best_158 (by decide) ?_
                                obtain ⟨v46, ev46⟩ : ∃ y : Int32, y = x16 + 1 := ⟨_, rfl⟩
                                have hw := gq_at1 hw ev46
                                refine lv_iinc (v := v46) (lv' := [(6, .int v46), (8, .int 0), (7, .int r26), (0, .ref (ad 16)), (1, .int p1), (2, .int p2), (3, .int p3), (4, .int x14), (5, .int x15)]) hx hb dX5_best_169 hl (k := 8) rfl (by rw [ev46]; rfl) (by decide) rfl (fun ls hl => ?_)
                                refine lv_goto (tgt := 41) hx hb dX5_best_172 (by decide) ?_
                                exact ih x14 x15 v46 _ _ hw hP hD hS ls (lv_sub hl [3, 4, 5, 6, 7, 8, 0] rfl)
                            · have hw := gq_t c43 hw
                              refine lv_aload_n hx hb dX5_best_131 rfl (lv_at hl 1 rfl) ?_
                              refine lv_iload hx hb dX5_best_132 (lv_at hl 7 rfl) ?_
                              refine gq_calli (wsN := fun _ => (wdM ad ck Mp Mv Mb Me Md Mdo Mk Mm Mta Mkn Mti Mrl Mrr Mt Mn Mw_7 Mwl_8 Mws_9 Mf_10 Mpa_11 Mne_12)) (va_runV (As := [.int x16]) (rest := []) ⟨hx, hb, hml, hown, hts⟩ (c_X5_honestOf l D ad ck H.size Mp Mv Mb Me Md Mdo Mk Mm Mta Mkn Mti Mrl Mrr Mt Mn Mw_7 Mwl_8 Mws_9 Mf_10 Mpa_11 Mne_12 x16 _ hw) (cwV 1 hts gX5_best_X5_honestOf rfl rfl rfl (by decide +kernel) ⟨Nat.le_of_ble_eq_true rfl, Nat.le_of_ble_eq_true rfl⟩) (gq_preV hK [0, 1, 2, 3, 4, 5, 6, 7, 8, 9, 10, 11, 12, 13] rfl hP hD [0, 1, 2, 3, 4, 5, 6, 7, 8, 9, 10, 11, 12, 13, 14] rfl rfl hnw 5 0 rfl rfl) rfl rfl hl.1 rfl (lv_room (Nat.le_of_ble_eq_true rfl)) dX5_best_134 ⟨Nat.zero_le _, Nat.zero_le _⟩) hP hD hS hA [0, 1, 2, 3, 4, 5, 6, 7, 8, 9, 10, 11, 12, 13, 14] [] rfl rfl rfl (by decide) [0, 1, 2, 3, 4, 5, 6, 7, 8, 9, 10, 11, 12, 13, 14] rfl (fun _ => rfl) (fun r47 _ H locs hw hP hD hS => ?_)
                              refine lv_aload_n hx hb dX5_best_137 rfl (lv_at hl 1 rfl) ?_
                              refine lv_iload hx hb dX5_best_138 (lv_at hl 5 rfl) ?_
                              refine gq_calli (wsN := fun _ => (wdM ad ck Mp Mv Mb Me Md Mdo Mk Mm Mta Mkn Mti Mrl Mrr Mt Mn Mw_7 Mwl_8 Mws_9 Mf_10 Mpa_11 Mne_12)) (va_runV (As := [.int x14]) (rest := [.int r47]) ⟨hx, hb, hml, hown, hts⟩ (c_X5_honestOf l D ad ck H.size Mp Mv Mb Me Md Mdo Mk Mm Mta Mkn Mti Mrl Mrr Mt Mn Mw_7 Mwl_8 Mws_9 Mf_10 Mpa_11 Mne_12 x14 _ hw) (cwV 1 hts gX5_best_X5_honestOf rfl rfl rfl (by decide +kernel) ⟨Nat.le_of_ble_eq_true rfl, Nat.le_of_ble_eq_true rfl⟩) (gq_preV hK [0, 1, 2, 3, 4, 5, 6, 7, 8, 9, 10, 11, 12, 13] rfl hP hD [0, 1, 2, 3, 4, 5, 6, 7, 8, 9, 10, 11, 12, 13, 14] rfl rfl hnw 5 0 rfl rfl) rfl rfl hl.1 rfl (lv_room (Nat.le_of_ble_eq_true rfl)) dX5_best_140 ⟨Nat.zero_le _, Nat.zero_le _⟩) hP hD hS hA [0, 1, 2, 3, 4, 5, 6, 7, 8, 9, 10, 11, 12, 13, 14] [] rfl rfl rfl (by decide) [0, 1, 2, 3, 4, 5, 6, 7, 8, 9, 10, 11, 12, 13, 14] rfl (fun _ => rfl) (fun r48 _ H locs hw hP hD hS => ?_)
                              refine lv_icmp_ge (tgt := 150) hx hb dX5_best_143 (by decide) (fun c49 => ?_) (fun c49 => ?_)
                              · have hw := gq_t c49 hw
                                refine lv_iconst (v := 0) hx hb dX5_best_150 (by decide) ?_
                                refine lv_istore (lv' := [(8, .int 0), (7, .int r26), (0, .ref (ad 16)), (1, .int p1), (2, .int p2), (3, .int p3), (4, .int x14), (5, .int x15), (6, .int x16)]) hx hb dX5_best_151 hl (by decide) rfl (fun ls hl => ?_)
                                refine lv_iload hx hb dX5_best_153 (lv_at hl 0 rfl) ?_
                                refine lv_if_ne (tgt := 161) hx hb dX5_best_155 (by decide) (fun c50 => ?_) (fun c50 => ?_)
                                · have hw := gq_f c50 hw
                                  refine lv_iload hx hb dX5_best_161 (lv_at hl 8 rfl) ?_
                                  refine lv_istore (lv' := [(4, .int x16), (8, .int 0), (7, .int r26), (0, .ref (ad 16)), (1, .int p1), (2, .int p2), (3, .int p3), (5, .int x15), (6, .int x16)]) hx hb dX5_best_163 hl (by decide) rfl (fun ls hl => ?_)
                                  refine lv_iload hx hb dX5_best_165 (lv_at hl 2 rfl) ?_
                                  refine lv_istore (lv' := [(5, .int r26), (4, .int x16), (8, .int 0), (7, .int r26), (0, .ref (ad 16)), (1, .int p1), (2, .int p2), (3, .int p3), (6, .int x16)]) hx hb dX5_best_167 hl (by decide) rfl (fun ls hl => ?_)
                                  obtain ⟨v51, ev51⟩ : ∃ y : Int32, y = x16 + 1 := ⟨_, rfl⟩
                                  have hw := gq_at1 hw ev51
                                  refine lv_iinc (v := v51) (lv' := [(6, .int v51), (5, .int r26), (4, .int x16), (8, .int 0), (7, .int r26), (0, .ref (ad 16)), (1, .int p1), (2, .int p2), (3, .int p3)]) hx hb dX5_best_169 hl (k := 8) rfl (by rw [ev51]; rfl) (by decide) rfl (fun ls hl => ?_)
                                  refine lv_goto (tgt := 41) hx hb dX5_best_172 (by decide) ?_
                                  exact ih x16 r26 v51 _ _ hw hP hD hS ls (lv_sub hl [5, 6, 7, 8, 2, 1, 0] rfl)
                                · have hw := gq_t c50 hw
                                  refine lv_goto (tgt := 169) hx hb dX5_best_158 (by decide) ?_
                                  obtain ⟨v52, ev52⟩ : ∃ y : Int32, y = x16 + 1 := ⟨_, rfl⟩
                                  have hw := gq_at1 hw ev52
                                  refine lv_iinc (v := v52) (lv' := [(6, .int v52), (8, .int 0), (7, .int r26), (0, .ref (ad 16)), (1, .int p1), (2, .int p2), (3, .int p3), (4, .int x14), (5, .int x15)]) hx hb dX5_best_169 hl (k := 8) rfl (by rw [ev52]; rfl) (by decide) rfl (fun ls hl => ?_)
                                  refine lv_goto (tgt := 41) hx hb dX5_best_172 (by decide) ?_
                                  exact ih x14 x15 v52 _ _ hw hP hD hS ls (lv_sub hl [3, 4, 5, 6, 7, 8, 0] rfl)
                              · have hw := gq_f c49 hw
                                refine lv_iconst (v := 1) hx hb dX5_best_146 (by decide) ?_
                                refine lv_goto (tgt := 151) hx hb dX5_best_147 (by decide) ?_
                                refine lv_istore (lv' := [(8, .int 1), (7, .int r26), (0, .ref (ad 16)), (1, .int p1), (2, .int p2), (3, .int p3), (4, .int x14), (5, .int x15), (6, .int x16)]) hx hb dX5_best_151 hl (by decide) rfl (fun ls hl => ?_)
                                refine lv_iload hx hb dX5_best_153 (lv_at hl 0 rfl) ?_
                                refine lv_if_ne (tgt := 161) hx hb dX5_best_155 (by decide) (fun c53 => ?_) (fun c53 => ?_)
                                · have hw := gq_f c53 hw
                                  refine lv_iload hx hb dX5_best_161 (lv_at hl 8 rfl) ?_
                                  refine lv_istore (lv' := [(4, .int x16), (8, .int 1), (7, .int r26), (0, .ref (ad 16)), (1, .int p1), (2, .int p2), (3, .int p3), (5, .int x15), (6, .int x16)]) hx hb dX5_best_163 hl (by decide) rfl (fun ls hl => ?_)
                                  refine lv_iload hx hb dX5_best_165 (lv_at hl 2 rfl) ?_
                                  refine lv_istore (lv' := [(5, .int r26), (4, .int x16), (8, .int 1), (7, .int r26), (0, .ref (ad 16)), (1, .int p1), (2, .int p2), (3, .int p3), (6, .int x16)]) hx hb dX5_best_167 hl (by decide) rfl (fun ls hl => ?_)
                                  obtain ⟨v54, ev54⟩ : ∃ y : Int32, y = x16 + 1 := ⟨_, rfl⟩
                                  have hw := gq_at1 hw ev54
                                  refine lv_iinc (v := v54) (lv' := [(6, .int v54), (5, .int r26), (4, .int x16), (8, .int 1), (7, .int r26), (0, .ref (ad 16)), (1, .int p1), (2, .int p2), (3, .int p3)]) hx hb dX5_best_169 hl (k := 8) rfl (by rw [ev54]; rfl) (by decide) rfl (fun ls hl => ?_)
                                  refine lv_goto (tgt := 41) hx hb dX5_best_172 (by decide) ?_
                                  exact ih x16 r26 v54 _ _ hw hP hD hS ls (lv_sub hl [5, 6, 7, 8, 2, 1, 0] rfl)
                                · have hw := gq_t c53 hw
                                  refine lv_goto (tgt := 169) hx hb dX5_best_158 (by decide) ?_
                                  obtain ⟨v55, ev55⟩ : ∃ y : Int32, y = x16 + 1 := ⟨_, rfl⟩
                                  have hw := gq_at1 hw ev55
                                  refine lv_iinc (v := v55) (lv' := [(6, .int v55), (8, .int 1), (7, .int r26), (0, .ref (ad 16)), (1, .int p1), (2, .int p2), (3, .int p3), (4, .int x14), (5, .int x15)]) hx hb dX5_best_169 hl (k := 8) rfl (by rw [ev55]; rfl) (by decide) rfl (fun ls hl => ?_)
                                  refine lv_goto (tgt := 41) hx hb dX5_best_172 (by decide) ?_
                                  exact ih x14 x15 v55 _ _ hw hP hD hS ls (lv_sub hl [3, 4, 5, 6, 7, 8, 0] rfl)
                    · have hw := gq_t c25 hw
                      refine lv_goto (tgt := 169) hx hb dX5_best_80 (by decide) ?_
                      obtain ⟨v56, ev56⟩ : ∃ y : Int32, y = x16 + 1 := ⟨_, rfl⟩
                      have hw := gq_at1 hw ev56
                      refine lv_iinc (v := v56) (lv' := [(6, .int v56), (0, .ref (ad 16)), (1, .int p1), (2, .int p2), (3, .int p3), (4, .int x14), (5, .int x15)]) hx hb dX5_best_169 hl (k := 6) rfl (by rw [ev56]; rfl) (by decide) rfl (fun ls hl => ?_)
                      refine lv_goto (tgt := 41) hx hb dX5_best_172 (by decide) ?_
                      exact ih x14 x15 v56 _ _ hw hP hD hS ls (lv_sub hl [1, 2, 3, 4, 5, 6, 0] rfl)
          obtain ⟨n, hw⟩ := hw
          refine hL41 _ (fun y57 y58 y59 H locs hw hP hD hS ls hl => ?_) n 0 0 1 _ _ hw hP hD hS ls (lv_sub hl [3, 4, 5, 6, 2, 1, 0] rfl)
          refine lv_iload_n hx hb dX5_best_175 rfl (lv_at hl 3 rfl) ?_
          refine lv_if_ne (tgt := 184) hx hb dX5_best_176 (by decide) (fun c60 => ?_) (fun c60 => ?_)
          · have hw := gq_f c60 hw
            refine lv_iload_n hx hb dX5_best_184 rfl (lv_at hl 3 rfl) ?_
            refine lv_iconst (v := 1) hx hb dX5_best_185 (by decide) ?_
            refine lv_icmp_ne (tgt := 194) hx hb dX5_best_186 (by decide) (fun c61 => ?_) (fun c61 => ?_)
            · have hw := gq_f c61 hw
              refine lv_aload_n hx hb dX5_best_194 rfl (lv_at hl 0 rfl) ?_
              refine lv_iload hx hb dX5_best_195 (lv_at hl 4 rfl) ?_
              refine gq_calli (wsN := fun _ => (wdM ad ck Mp Mv Mb Me Md Mdo Mk Mm Mta Mkn Mti Mrl Mrr Mt Mn Mw_7 Mwl_8 Mws_9 Mf_10 Mpa_11 Mne_12)) (va_runV (As := [.int y57]) (rest := []) ⟨hx, hb, hml, hown, hts⟩ (c_X5_honestOf l D ad ck H.size Mp Mv Mb Me Md Mdo Mk Mm Mta Mkn Mti Mrl Mrr Mt Mn Mw_7 Mwl_8 Mws_9 Mf_10 Mpa_11 Mne_12 y57 _ hw) (cwV 1 hts gX5_best_X5_honestOf rfl rfl rfl (by decide +kernel) ⟨Nat.le_of_ble_eq_true rfl, Nat.le_of_ble_eq_true rfl⟩) (gq_preV hK [0, 1, 2, 3, 4, 5, 6, 7, 8, 9, 10, 11, 12, 13] rfl hP hD [0, 1, 2, 3, 4, 5, 6, 7, 8, 9, 10, 11, 12, 13, 14] rfl rfl hnw 5 0 rfl rfl) rfl rfl hl.1 rfl (lv_room (Nat.le_of_ble_eq_true rfl)) dX5_best_197 ⟨Nat.zero_le _, Nat.zero_le _⟩) hP hD hS hA [0, 1, 2, 3, 4, 5, 6, 7, 8, 9, 10, 11, 12, 13, 14] [] rfl rfl rfl (by decide) [0, 1, 2, 3, 4, 5, 6, 7, 8, 9, 10, 11, 12, 13, 14] rfl (fun _ => rfl) (fun r62 _ H locs hw hP hD hS => ?_)
              exact hz r62 (Mw_7, Mwl_8, Mws_9, Mf_10, Mpa_11, Mne_12) _ _ _ _ dX5_best_200 hw hP hD hS
            · have hw := gq_t c61 hw
              refine lv_iload hx hb dX5_best_189 (lv_at hl 4 rfl) ?_
              refine lv_goto (tgt := 200) hx hb dX5_best_191 (by decide) ?_
              exact hz y57 (Mw_7, Mwl_8, Mws_9, Mf_10, Mpa_11, Mne_12) _ _ _ _ dX5_best_200 hw hP hD hS
          · have hw := gq_t c60 hw
            refine lv_iload hx hb dX5_best_179 (lv_at hl 5 rfl) ?_
            refine lv_goto (tgt := 200) hx hb dX5_best_181 (by decide) ?_
            exact hz y58 (Mw_7, Mwl_8, Mws_9, Mf_10, Mpa_11, Mne_12) _ _ _ _ dX5_best_200 hw hP hD hS
        · have hw := gq_t c13 hw
          refine lv_iconst (v := (-1)) hx hb dX5_best_30 (by decide) ?_
          exact hz (-1) (Mw_7, Mwl_8, Mws_9, Mf_10, Mpa_11, Mne_12) _ _ _ _ dX5_best_31 hw hP hD hS

def wl_X5_cover_13 (Mp : Int32) (Me : Int32) (Mk : Nat → Int32) (Mkn : Nat → Int32) (Mti : Nat → Int32) (Mrl : Nat → Int32) (Mrr : Nat → Int32) (Mw_2 : Nat → Int32) (Mwl_3 : Nat → Int32) (Mws_4 : Nat → Int32) (Mf_5 : Int32) (Mpa_6 : Nat → Int32) (Mne_7 : Nat → Int32)   (post : Int32 → (Nat → Int32) → (Nat → Int32) → (Nat → Int32) → Int32 → (Nat → Int32) → (Nat → Int32) → Prop) : Nat → Int32 → Int32 → Prop
  | 0, _, _ => False
  | n13 + 1, x9, x10 => (if ((1 : Int32) <<< (Mp &&& 31)) ≤ x10 then post x9 Mw_2 Mwl_3 Mws_4 Mf_5 Mpa_6 Mne_7 else wp_X5_isFree x10 Mp Me Mk Mkn (fun (r12 : Int32) => (if r12 = 0 then gq_nm (x10 + 1) (fun v14 : Int32 => wl_X5_cover_13 Mp Me Mk Mkn Mti Mrl Mrr Mw_2 Mwl_3 Mws_4 Mf_5 Mpa_6 Mne_7 post n13 x9 v14) else wp_X5_touchedBy x10 Mws_4 Mf_5 (fun (r15 : Int32) => (if Mf_5 ≤ r15 then (if x9 = (-1) then gq_nm (x10 + 1) (fun v18 : Int32 => wl_X5_cover_13 Mp Me Mk Mkn Mti Mrl Mrr Mw_2 Mwl_3 Mws_4 Mf_5 Mpa_6 Mne_7 post n13 x10 v18) else wp_X5_bits x10 (fun (r19 : Int32) => wp_X5_bits x9 (fun (r20 : Int32) => (if r19 < r20 then gq_nm (x10 + 1) (fun v22 : Int32 => wl_X5_cover_13 Mp Me Mk Mkn Mti Mrl Mrr Mw_2 Mwl_3 Mws_4 Mf_5 Mpa_6 Mne_7 post n13 x10 v22) else wp_X5_bits x10 (fun (r23 : Int32) => wp_X5_bits x9 (fun (r24 : Int32) => (if r23 = r24 then wp_X5_honestOf x10 Mti Mrl Mrr (fun (r27 : Int32) => wp_X5_honestOf x9 Mti Mrl Mrr (fun (r28 : Int32) => (if r28 ≤ r27 then gq_nm (x10 + 1) (fun v30 : Int32 => wl_X5_cover_13 Mp Me Mk Mkn Mti Mrl Mrr Mw_2 Mwl_3 Mws_4 Mf_5 Mpa_6 Mne_7 post n13 x9 v30) else gq_nm (x10 + 1) (fun v31 : Int32 => wl_X5_cover_13 Mp Me Mk Mkn Mti Mrl Mrr Mw_2 Mwl_3 Mws_4 Mf_5 Mpa_6 Mne_7 post n13 x10 v31)))) else gq_nm (x10 + 1) (fun v26 : Int32 => wl_X5_cover_13 Mp Me Mk Mkn Mti Mrl Mrr Mw_2 Mwl_3 Mws_4 Mf_5 Mpa_6 Mne_7 post n13 x9 v26)))))))) else gq_nm (x10 + 1) (fun v32 : Int32 => wl_X5_cover_13 Mp Me Mk Mkn Mti Mrl Mrr Mw_2 Mwl_3 Mws_4 Mf_5 Mpa_6 Mne_7 post n13 x9 v32))))))

def wp_X5_cover  (Mp : Int32) (Me : Int32) (Mdo : Nat → Int32) (Mk : Nat → Int32) (Mkn : Nat → Int32) (Mti : Nat → Int32) (Mrl : Nat → Int32) (Mrr : Nat → Int32) (Mw : Nat → Int32) (Mwl : Nat → Int32) (Mws : Nat → Int32) (Mf : Int32) (Mpa : Nat → Int32) (Mne : Nat → Int32) (post : Int32 → (Nat → Int32) → (Nat → Int32) → (Nat → Int32) → Int32 → (Nat → Int32) → (Nat → Int32) → Prop) : Prop :=
  wp_X5_finds Mp Mdo Mk Mw Mwl Mws Mf Mpa Mne (fun (r1 : Int32) (Mw_2 : Nat → Int32) (Mwl_3 : Nat → Int32) (Mws_4 : Nat → Int32) (Mf_5 : Int32) (Mpa_6 : Nat → Int32) (Mne_7 : Nat → Int32) => (if r1 = 0 then post (-1) Mw_2 Mwl_3 Mws_4 Mf_5 Mpa_6 Mne_7 else ∃ k13, wl_X5_cover_13 Mp Me Mk Mkn Mti Mrl Mrr Mw_2 Mwl_3 Mws_4 Mf_5 Mpa_6 Mne_7 post k13 (-1) 0))

theorem iX5_cover_X5 : ∀ w ∈ wsX50, w ∈ wsX5_cover := by decide +kernel
set_option maxHeartbeats 4000000 in
set_option maxRecDepth 100000 in
theorem c_X5_cover (l : Launch) (D : va_G) (ad : Nat → Nat) (ck : Nat → ClassId) (sz : Nat) (Mp : Int32) (Mv : Int32) (Mb : Int32) (Me : Int32) (Md : Int32) (Mdo : Nat → Int32) (Mk : Nat → Int32) (Mm : Nat → Int32) (Mta : Nat → Int32) (Mkn : Nat → Int32) (Mti : Nat → Int32) (Mrl : Nat → Int32) (Mrr : Nat → Int32) (Mt : Nat → Int32) (Mn : Int32) (Mw : Nat → Int32) (Mwl : Nat → Int32) (Mws : Nat → Int32) (Mf : Int32) (Mpa : Nat → Int32) (Mne : Nat → Int32)  (post : Int32 → (Nat → Int32) → (Nat → Int32) → (Nat → Int32) → Int32 → (Nat → Int32) → (Nat → Int32) → Prop) (hw : wp_X5_cover Mp Me Mdo Mk Mkn Mti Mrl Mrr Mw Mwl Mws Mf Mpa Mne post) : Met l yX5_cover wsX5_cover { frames := 2, cells := 0, slots := 0, locals := 47 } (va_Pc [.ref (ad 16)] (gq_pre D (tyM ck) (wdM ad ck Mp Mv Mb Me Md Mdo Mk Mm Mta Mkn Mti Mrl Mrr Mt Mn Mw Mwl Mws Mf Mpa Mne) sz)) (va_Qi (fun (r : Int32) (u : (Nat → Int32) × (Nat → Int32) × (Nat → Int32) × Int32 × (Nat → Int32) × (Nat → Int32)) => post r u.1 u.2.1 u.2.2.1 u.2.2.2.1 u.2.2.2.2.1 u.2.2.2.2.2) (gq_at D (va_A (wdM ad ck Mp Mv Mb Me Md Mdo Mk Mm Mta Mkn Mti Mrl Mrr Mt Mn Mw Mwl Mws Mf Mpa Mne) sz) (fun (u : (Nat → Int32) × (Nat → Int32) × (Nat → Int32) × Int32 × (Nat → Int32) × (Nat → Int32)) => (wdM ad ck Mp Mv Mb Me Md Mdo Mk Mm Mta Mkn Mti Mrl Mrr Mt Mn u.1 u.2.1 u.2.2.1 u.2.2.2.1 u.2.2.2.2.1 u.2.2.2.2.2))) (va_A (wdM ad ck Mp Mv Mb Me Md Mdo Mk Mm Mta Mkn Mti Mrl Mrr Mt Mn Mw Mwl Mws Mf Mpa Mne) sz)) 0 0 (va_A (wdM ad ck Mp Mv Mb Me Md Mdo Mk Mm Mta Mkn Mti Mrl Mrr Mt Mn Mw Mwl Mws Mf Mpa Mne) sz) := by
  refine gq_meti (cc := cX5_cover) (maxL := 3) (lv := [(0, .ref (ad 16))]) (by decide) rfl (Nat.le_of_ble_eq_true rfl) rfl ?_
  intro p e s m below meth c A Q ls H locs hx hb hml hown hts hnw hA hK hP hD hS hl hz
  refine lv_aload_n hx hb dX5_cover_0 rfl (lv_at hl 0 rfl) ?_
  refine gq_calli (wsN := fun u => (wdM ad ck Mp Mv Mb Me Md Mdo Mk Mm Mta Mkn Mti Mrl Mrr Mt Mn u.1 u.2.1 u.2.2.1 u.2.2.2.1 u.2.2.2.2.1 u.2.2.2.2.2)) (va_runV (As := []) (rest := []) ⟨hx, hb, hml, hown, hts⟩ (c_X5_finds l D ad ck H.size Mp Mv Mb Me Md Mdo Mk Mm Mta Mkn Mti Mrl Mrr Mt Mn Mw Mwl Mws Mf Mpa Mne  _ hw) (cwV 0 hts gX5_cover_X5_finds rfl rfl rfl (by decide +kernel) ⟨Nat.le_of_ble_eq_true rfl, Nat.le_of_ble_eq_true rfl⟩) (gq_preV hK [0, 1, 2, 3, 4, 5, 6, 7, 8, 9, 10, 11, 12, 13] rfl hP hD [0, 1, 2, 3, 4, 5, 6, 7, 8, 9, 10, 11, 12, 13, 14] rfl rfl hnw 5 0 rfl rfl) rfl rfl hl.1 rfl (lv_room (Nat.le_of_ble_eq_true rfl)) dX5_cover_1 ⟨Nat.zero_le _, Nat.zero_le _⟩) hP hD hS hA [0, 1, 2, 3, 4, 5, 6, 7, 8, 9, 10, 11, 12, 13, 14] [] rfl rfl rfl (by decide) [0, 1, 2, 3, 4, 5, 6, 7, 8, 9, 10, 11, 12, 13, 14] rfl (fun _ => rfl) (fun r1 u_ H locs hw hP hD hS => ?_)
  obtain ⟨Mw_2, Mwl_3, Mws_4, Mf_5, Mpa_6, Mne_7⟩ := u_
  have hP : va_P D vwCl (wdM ad ck Mp Mv Mb Me Md Mdo Mk Mm Mta Mkn Mti Mrl Mrr Mt Mn Mw_2 Mwl_3 Mws_4 Mf_5 Mpa_6 Mne_7) H := hP
  have hD : va_D A (wdM ad ck Mp Mv Mb Me Md Mdo Mk Mm Mta Mkn Mti Mrl Mrr Mt Mn Mw_2 Mwl_3 Mws_4 Mf_5 Mpa_6 Mne_7) := hD
  refine lv_if_ne (tgt := 9) hx hb dX5_cover_4 (by decide) (fun c8 => ?_) (fun c8 => ?_)
  · have hw := gq_f c8 hw
    refine lv_iconst (v := (-1)) hx hb dX5_cover_9 (by decide) ?_
    refine lv_istore_n (lv' := [(1, .int (-1)), (0, .ref (ad 16))]) hx hb dX5_cover_10 rfl hl (by decide) rfl (fun ls hl => ?_)
    refine lv_iconst (v := 0) hx hb dX5_cover_11 (by decide) ?_
    refine lv_istore_n (lv' := [(2, .int 0), (1, .int (-1)), (0, .ref (ad 16))]) hx hb dX5_cover_12 rfl hl (by decide) rfl (fun ls hl => ?_)
    have hL13 : ∀ (n : Nat) (x9 : Int32) (x10 : Int32) (H : Heap) (locs : List Loc), wl_X5_cover_13 Mp Me Mk Mkn Mti Mrl Mrr Mw_2 Mwl_3 Mws_4 Mf_5 Mpa_6 Mne_7 post n x9 x10 → va_P D vwCl (wdM ad ck Mp Mv Mb Me Md Mdo Mk Mm Mta Mkn Mti Mrl Mrr Mt Mn Mw_2 Mwl_3 Mws_4 Mf_5 Mpa_6 Mne_7) H → va_D A (wdM ad ck Mp Mv Mb Me Md Mdo Mk Mm Mta Mkn Mti Mrl Mrr Mt Mn Mw_2 Mwl_3 Mws_4 Mf_5 Mpa_6 Mne_7) → va_S A s.heap H locs → ∀ ls : Array Slot, lv_has ls 3 [(0, .ref (ad 16)), (1, .int x9), (2, .int x10)] → W p l e { frames := 2, cells := 0, slots := 0, locals := 47 } s m ([.ref (ad 16)] : List Value).toArray below meth c H locs 0 0 Q (F0 m 13 ls []) := by
      intro n
      induction n with
      | zero =>
        intro x9 x10 H locs hw
        exact hw.elim
      | succ n ih =>
        intro x9 x10 H locs hw hP hD hS ls hl
        refine lv_iload_n hx hb dX5_cover_13 rfl (lv_at hl 2 rfl) ?_
        refine lv_iconst (v := 1) hx hb dX5_cover_14 (by decide) ?_
        refine lv_aload_n hx hb dX5_cover_15 rfl (lv_at hl 0 rfl) ?_
        refine va_get (D := D) (ci := 5) (v := .int Mp) (C := RX5) (T := TX5) (N := 21) hx hb hts iX5_cover_X5 hown hK hP 0 rfl rfl 0 (by decide) (hts (.fieldLink RX5 7 "DecoyHouseModel" "places" "I") (by decide +kernel)) (fun _ h9 => h9) rfl dX5_cover_16 ?_
        refine lv_ishl hx hb dX5_cover_19 ?_
        refine lv_icmp_ge (tgt := 94) hx hb dX5_cover_20 (by decide) (fun c11 => ?_) (fun c11 => ?_)
        · have hw := gq_t c11 hw
          refine lv_iload_n hx hb dX5_cover_94 rfl (lv_at hl 1 rfl) ?_
          exact hz x9 (Mw_2, Mwl_3, Mws_4, Mf_5, Mpa_6, Mne_7) _ _ _ _ dX5_cover_95 hw hP hD hS
        · have hw := gq_f c11 hw
          refine lv_aload_n hx hb dX5_cover_23 rfl (lv_at hl 0 rfl) ?_
          refine lv_iload_n hx hb dX5_cover_24 rfl (lv_at hl 2 rfl) ?_
          refine gq_calli (wsN := fun _ => (wdM ad ck Mp Mv Mb Me Md Mdo Mk Mm Mta Mkn Mti Mrl Mrr Mt Mn Mw_2 Mwl_3 Mws_4 Mf_5 Mpa_6 Mne_7)) (va_runV (As := [.int x10]) (rest := []) ⟨hx, hb, hml, hown, hts⟩ (c_X5_isFree l D ad ck H.size Mp Mv Mb Me Md Mdo Mk Mm Mta Mkn Mti Mrl Mrr Mt Mn Mw_2 Mwl_3 Mws_4 Mf_5 Mpa_6 Mne_7 x10 _ hw) (cwV 1 hts gX5_cover_X5_isFree rfl rfl rfl (by decide +kernel) ⟨Nat.le_of_ble_eq_true rfl, Nat.le_of_ble_eq_true rfl⟩) (gq_preV hK [0, 1, 2, 3, 4, 5, 6, 7, 8, 9, 10, 11, 12, 13] rfl hP hD [0, 1, 2, 3, 4, 5, 6, 7, 8, 9, 10, 11, 12, 13, 14] rfl rfl hnw 5 0 rfl rfl) rfl rfl hl.1 rfl (lv_room (Nat.le_of_ble_eq_true rfl)) dX5_cover_25 ⟨Nat.zero_le _, Nat.zero_le _⟩) hP hD hS hA [0, 1, 2, 3, 4, 5, 6, 7, 8, 9, 10, 11, 12, 13, 14] [] rfl rfl rfl (by decide) [0, 1, 2, 3, 4, 5, 6, 7, 8, 9, 10, 11, 12, 13, 14] rfl (fun _ => rfl) (fun r12 _ H locs hw hP hD hS => ?_)
          refine lv_if_eq (tgt := 88) hx hb dX5_cover_28 (by decide) (fun c13 => ?_) (fun c13 => ?_)
          · have hw := gq_t c13 hw
            obtain ⟨v14, ev14⟩ : ∃ y : Int32, y = x10 + 1 := ⟨_, rfl⟩
            have hw := gq_at1 hw ev14
            refine lv_iinc (v := v14) (lv' := [(2, .int v14), (0, .ref (ad 16)), (1, .int x9)]) hx hb dX5_cover_88 hl (k := 2) rfl (by rw [ev14]; rfl) (by decide) rfl (fun ls hl => ?_)
            refine lv_goto (tgt := 13) hx hb dX5_cover_91 (by decide) ?_
            exact ih x9 v14 _ _ hw hP hD hS ls (lv_sub hl [1, 2, 0] rfl)
          · have hw := gq_f c13 hw
            refine lv_aload_n hx hb dX5_cover_31 rfl (lv_at hl 0 rfl) ?_
            refine lv_iload_n hx hb dX5_cover_32 rfl (lv_at hl 2 rfl) ?_
            refine gq_calli (wsN := fun _ => (wdM ad ck Mp Mv Mb Me Md Mdo Mk Mm Mta Mkn Mti Mrl Mrr Mt Mn Mw_2 Mwl_3 Mws_4 Mf_5 Mpa_6 Mne_7)) (va_runV (As := [.int x10]) (rest := []) ⟨hx, hb, hml, hown, hts⟩ (c_X5_touchedBy l D ad ck H.size Mp Mv Mb Me Md Mdo Mk Mm Mta Mkn Mti Mrl Mrr Mt Mn Mw_2 Mwl_3 Mws_4 Mf_5 Mpa_6 Mne_7 x10 _ hw) (cwV 1 hts gX5_cover_X5_touchedBy rfl rfl rfl (by decide +kernel) ⟨Nat.le_of_ble_eq_true rfl, Nat.le_of_ble_eq_true rfl⟩) (gq_preV hK [0, 1, 2, 3, 4, 5, 6, 7, 8, 9, 10, 11, 12, 13] rfl hP hD [0, 1, 2, 3, 4, 5, 6, 7, 8, 9, 10, 11, 12, 13, 14] rfl rfl hnw 5 0 rfl rfl) rfl rfl hl.1 rfl (lv_room (Nat.le_of_ble_eq_true rfl)) dX5_cover_33 ⟨Nat.zero_le _, Nat.zero_le _⟩) hP hD hS hA [0, 1, 2, 3, 4, 5, 6, 7, 8, 9, 10, 11, 12, 13, 14] [] rfl rfl rfl (by decide) [0, 1, 2, 3, 4, 5, 6, 7, 8, 9, 10, 11, 12, 13, 14] rfl (fun _ => rfl) (fun r15 _ H locs hw hP hD hS => ?_)
            refine lv_aload_n hx hb dX5_cover_36 rfl (lv_at hl 0 rfl) ?_
            refine va_get (D := D) (ci := 5) (v := .int Mf_5) (C := RX5) (T := TX5) (N := 21) hx hb hts iX5_cover_X5 hown hK hP 0 rfl rfl 18 (by decide) (hts (.fieldLink RX5 86 "DecoyHouseModel" "ways" "I") (by decide +kernel)) (fun _ h9 => h9) rfl dX5_cover_37 ?_
            refine lv_icmp_ge (tgt := 46) hx hb dX5_cover_40 (by decide) (fun c16 => ?_) (fun c16 => ?_)
            · have hw := gq_t c16 hw
              refine lv_iload_n hx hb dX5_cover_46 rfl (lv_at hl 1 rfl) ?_
              refine lv_iconst (v := (-1)) hx hb dX5_cover_47 (by decide) ?_
              refine lv_icmp_eq (tgt := 86) hx hb dX5_cover_48 (by decide) (fun c17 => ?_) (fun c17 => ?_)
              · have hw := gq_t c17 hw
                refine lv_iload_n hx hb dX5_cover_86 rfl (lv_at hl 2 rfl) ?_
                refine lv_istore_n (lv' := [(1, .int x10), (0, .ref (ad 16)), (2, .int x10)]) hx hb dX5_cover_87 rfl hl (by decide) rfl (fun ls hl => ?_)
                obtain ⟨v18, ev18⟩ : ∃ y : Int32, y = x10 + 1 := ⟨_, rfl⟩
                have hw := gq_at1 hw ev18
                refine lv_iinc (v := v18) (lv' := [(2, .int v18), (1, .int x10), (0, .ref (ad 16))]) hx hb dX5_cover_88 hl (k := 2) rfl (by rw [ev18]; rfl) (by decide) rfl (fun ls hl => ?_)
                refine lv_goto (tgt := 13) hx hb dX5_cover_91 (by decide) ?_
                exact ih x10 v18 _ _ hw hP hD hS ls (lv_sub hl [2, 1, 0] rfl)
              · have hw := gq_f c17 hw
                refine lv_iload_n hx hb dX5_cover_51 rfl (lv_at hl 2 rfl) ?_
                refine gq_calli (wsN := fun _ => (wdM ad ck Mp Mv Mb Me Md Mdo Mk Mm Mta Mkn Mti Mrl Mrr Mt Mn Mw_2 Mwl_3 Mws_4 Mf_5 Mpa_6 Mne_7)) (va_runS (As := [.int x10]) (rest := []) ⟨hx, hb, hml, hown, hts⟩ (c_X5_bits l D H.size x10 _ hw) (va_cwS 1 hts gX5_cover_X5_bits rfl rfl rfl (by decide +kernel) ⟨Nat.le_of_ble_eq_true rfl, Nat.le_of_ble_eq_true rfl⟩) (gq_preS hK [] rfl hP hD [] rfl rfl hnw) rfl rfl hl.1 rfl (lv_room (Nat.le_of_ble_eq_true rfl)) dX5_cover_52 ⟨Nat.zero_le _, Nat.zero_le _⟩) hP hD hS hA [] [0, 1, 2, 3, 4, 5, 6, 7, 8, 9, 10, 11, 12, 13, 14] rfl rfl rfl (by decide) [0, 1, 2, 3, 4, 5, 6, 7, 8, 9, 10, 11, 12, 13, 14] rfl (fun _ => rfl) (fun r19 _ H locs hw hP hD hS => ?_)
                refine lv_iload_n hx hb dX5_cover_55 rfl (lv_at hl 1 rfl) ?_
                refine gq_calli (wsN := fun _ => (wdM ad ck Mp Mv Mb Me Md Mdo Mk Mm Mta Mkn Mti Mrl Mrr Mt Mn Mw_2 Mwl_3 Mws_4 Mf_5 Mpa_6 Mne_7)) (va_runS (As := [.int x9]) (rest := [.int r19]) ⟨hx, hb, hml, hown, hts⟩ (c_X5_bits l D H.size x9 _ hw) (va_cwS 1 hts gX5_cover_X5_bits rfl rfl rfl (by decide +kernel) ⟨Nat.le_of_ble_eq_true rfl, Nat.le_of_ble_eq_true rfl⟩) (gq_preS hK [] rfl hP hD [] rfl rfl hnw) rfl rfl hl.1 rfl (lv_room (Nat.le_of_ble_eq_true rfl)) dX5_cover_56 ⟨Nat.zero_le _, Nat.zero_le _⟩) hP hD hS hA [] [0, 1, 2, 3, 4, 5, 6, 7, 8, 9, 10, 11, 12, 13, 14] rfl rfl rfl (by decide) [0, 1, 2, 3, 4, 5, 6, 7, 8, 9, 10, 11, 12, 13, 14] rfl (fun _ => rfl) (fun r20 _ H locs hw hP hD hS => ?_)
                refine lv_icmp_lt (tgt := 86) hx hb dX5_cover_59 (by decide) (fun c21 => ?_) (fun c21 => ?_)
                · have hw := gq_t c21 hw
                  refine lv_iload_n hx hb dX5_cover_86 rfl (lv_at hl 2 rfl) ?_
                  refine lv_istore_n (lv' := [(1, .int x10), (0, .ref (ad 16)), (2, .int x10)]) hx hb dX5_cover_87 rfl hl (by decide) rfl (fun ls hl => ?_)
                  obtain ⟨v22, ev22⟩ : ∃ y : Int32, y = x10 + 1 := ⟨_, rfl⟩
                  have hw := gq_at1 hw ev22
                  refine lv_iinc (v := v22) (lv' := [(2, .int v22), (1, .int x10), (0, .ref (ad 16))]) hx hb dX5_cover_88 hl (k := 2) rfl (by rw [ev22]; rfl) (by decide) rfl (fun ls hl => ?_)
                  refine lv_goto (tgt := 13) hx hb dX5_cover_91 (by decide) ?_
                  exact ih x10 v22 _ _ hw hP hD hS ls (lv_sub hl [2, 1, 0] rfl)
                · have hw := gq_f c21 hw
                  refine lv_iload_n hx hb dX5_cover_62 rfl (lv_at hl 2 rfl) ?_
                  refine gq_calli (wsN := fun _ => (wdM ad ck Mp Mv Mb Me Md Mdo Mk Mm Mta Mkn Mti Mrl Mrr Mt Mn Mw_2 Mwl_3 Mws_4 Mf_5 Mpa_6 Mne_7)) (va_runS (As := [.int x10]) (rest := []) ⟨hx, hb, hml, hown, hts⟩ (c_X5_bits l D H.size x10 _ hw) (va_cwS 1 hts gX5_cover_X5_bits rfl rfl rfl (by decide +kernel) ⟨Nat.le_of_ble_eq_true rfl, Nat.le_of_ble_eq_true rfl⟩) (gq_preS hK [] rfl hP hD [] rfl rfl hnw) rfl rfl hl.1 rfl (lv_room (Nat.le_of_ble_eq_true rfl)) dX5_cover_63 ⟨Nat.zero_le _, Nat.zero_le _⟩) hP hD hS hA [] [0, 1, 2, 3, 4, 5, 6, 7, 8, 9, 10, 11, 12, 13, 14] rfl rfl rfl (by decide) [0, 1, 2, 3, 4, 5, 6, 7, 8, 9, 10, 11, 12, 13, 14] rfl (fun _ => rfl) (fun r23 _ H locs hw hP hD hS => ?_)
                  refine lv_iload_n hx hb dX5_cover_66 rfl (lv_at hl 1 rfl) ?_
                  refine gq_calli (wsN := fun _ => (wdM ad ck Mp Mv Mb Me Md Mdo Mk Mm Mta Mkn Mti Mrl Mrr Mt Mn Mw_2 Mwl_3 Mws_4 Mf_5 Mpa_6 Mne_7)) (va_runS (As := [.int x9]) (rest := [.int r23]) ⟨hx, hb, hml, hown, hts⟩ (c_X5_bits l D H.size x9 _ hw) (va_cwS 1 hts gX5_cover_X5_bits rfl rfl rfl (by decide +kernel) ⟨Nat.le_of_ble_eq_true rfl, Nat.le_of_ble_eq_true rfl⟩) (gq_preS hK [] rfl hP hD [] rfl rfl hnw) rfl rfl hl.1 rfl (lv_room (Nat.le_of_ble_eq_true rfl)) dX5_cover_67 ⟨Nat.zero_le _, Nat.zero_le _⟩) hP hD hS hA [] [0, 1, 2, 3, 4, 5, 6, 7, 8, 9, 10, 11, 12, 13, 14] rfl rfl rfl (by decide) [0, 1, 2, 3, 4, 5, 6, 7, 8, 9, 10, 11, 12, 13, 14] rfl (fun _ => rfl) (fun r24 _ H locs hw hP hD hS => ?_)
                  refine lv_icmp_ne (tgt := 88) hx hb dX5_cover_70 (by decide) (fun c25 => ?_) (fun c25 => ?_)
                  · have hw := gq_f c25 hw
                    obtain ⟨v26, ev26⟩ : ∃ y : Int32, y = x10 + 1 := ⟨_, rfl⟩
                    have hw := gq_at1 hw ev26
                    refine lv_iinc (v := v26) (lv' := [(2, .int v26), (0, .ref (ad 16)), (1, .int x9)]) hx hb dX5_cover_88 hl (k := 2) rfl (by rw [ev26]; rfl) (by decide) rfl (fun ls hl => ?_)
                    refine lv_goto (tgt := 13) hx hb dX5_cover_91 (by decide) ?_
                    exact ih x9 v26 _ _ hw hP hD hS ls (lv_sub hl [1, 2, 0] rfl)
                  · have hw := gq_t c25 hw
                    refine lv_aload_n hx hb dX5_cover_73 rfl (lv_at hl 0 rfl) ?_
                    refine lv_iload_n hx hb dX5_cover_74 rfl (lv_at hl 2 rfl) ?_
                    refine gq_calli (wsN := fun _ => (wdM ad ck Mp Mv Mb Me Md Mdo Mk Mm Mta Mkn Mti Mrl Mrr Mt Mn Mw_2 Mwl_3 Mws_4 Mf_5 Mpa_6 Mne_7)) (va_runV (As := [.int x10]) (rest := []) ⟨hx, hb, hml, hown, hts⟩ (c_X5_honestOf l D ad ck H.size Mp Mv Mb Me Md Mdo Mk Mm Mta Mkn Mti Mrl Mrr Mt Mn Mw_2 Mwl_3 Mws_4 Mf_5 Mpa_6 Mne_7 x10 _ hw) (cwV 1 hts gX5_cover_X5_honestOf rfl rfl rfl (by decide +kernel) ⟨Nat.le_of_ble_eq_true rfl, Nat.le_of_ble_eq_true rfl⟩) (gq_preV hK [0, 1, 2, 3, 4, 5, 6, 7, 8, 9, 10, 11, 12, 13] rfl hP hD [0, 1, 2, 3, 4, 5, 6, 7, 8, 9, 10, 11, 12, 13, 14] rfl rfl hnw 5 0 rfl rfl) rfl rfl hl.1 rfl (lv_room (Nat.le_of_ble_eq_true rfl)) dX5_cover_75 ⟨Nat.zero_le _, Nat.zero_le _⟩) hP hD hS hA [0, 1, 2, 3, 4, 5, 6, 7, 8, 9, 10, 11, 12, 13, 14] [] rfl rfl rfl (by decide) [0, 1, 2, 3, 4, 5, 6, 7, 8, 9, 10, 11, 12, 13, 14] rfl (fun _ => rfl) (fun r27 _ H locs hw hP hD hS => ?_)
                    refine lv_aload_n hx hb dX5_cover_78 rfl (lv_at hl 0 rfl) ?_
                    refine lv_iload_n hx hb dX5_cover_79 rfl (lv_at hl 1 rfl) ?_
                    refine gq_calli (wsN := fun _ => (wdM ad ck Mp Mv Mb Me Md Mdo Mk Mm Mta Mkn Mti Mrl Mrr Mt Mn Mw_2 Mwl_3 Mws_4 Mf_5 Mpa_6 Mne_7)) (va_runV (As := [.int x9]) (rest := [.int r27]) ⟨hx, hb, hml, hown, hts⟩ (c_X5_honestOf l D ad ck H.size Mp Mv Mb Me Md Mdo Mk Mm Mta Mkn Mti Mrl Mrr Mt Mn Mw_2 Mwl_3 Mws_4 Mf_5 Mpa_6 Mne_7 x9 _ hw) (cwV 1 hts gX5_cover_X5_honestOf rfl rfl rfl (by decide +kernel) ⟨Nat.le_of_ble_eq_true rfl, Nat.le_of_ble_eq_true rfl⟩) (gq_preV hK [0, 1, 2, 3, 4, 5, 6, 7, 8, 9, 10, 11, 12, 13] rfl hP hD [0, 1, 2, 3, 4, 5, 6, 7, 8, 9, 10, 11, 12, 13, 14] rfl rfl hnw 5 0 rfl rfl) rfl rfl hl.1 rfl (lv_room (Nat.le_of_ble_eq_true rfl)) dX5_cover_80 ⟨Nat.zero_le _, Nat.zero_le _⟩) hP hD hS hA [0, 1, 2, 3, 4, 5, 6, 7, 8, 9, 10, 11, 12, 13, 14] [] rfl rfl rfl (by decide) [0, 1, 2, 3, 4, 5, 6, 7, 8, 9, 10, 11, 12, 13, 14] rfl (fun _ => rfl) (fun r28 _ H locs hw hP hD hS => ?_)
                    refine lv_icmp_ge (tgt := 88) hx hb dX5_cover_83 (by decide) (fun c29 => ?_) (fun c29 => ?_)
                    · have hw := gq_t c29 hw
                      obtain ⟨v30, ev30⟩ : ∃ y : Int32, y = x10 + 1 := ⟨_, rfl⟩
                      have hw := gq_at1 hw ev30
                      refine lv_iinc (v := v30) (lv' := [(2, .int v30), (0, .ref (ad 16)), (1, .int x9)]) hx hb dX5_cover_88 hl (k := 2) rfl (by rw [ev30]; rfl) (by decide) rfl (fun ls hl => ?_)
                      refine lv_goto (tgt := 13) hx hb dX5_cover_91 (by decide) ?_
                      exact ih x9 v30 _ _ hw hP hD hS ls (lv_sub hl [1, 2, 0] rfl)
                    · have hw := gq_f c29 hw
                      refine lv_iload_n hx hb dX5_cover_86 rfl (lv_at hl 2 rfl) ?_
                      refine lv_istore_n (lv' := [(1, .int x10), (0, .ref (ad 16)), (2, .int x10)]) hx hb dX5_cover_87 rfl hl (by decide) rfl (fun ls hl => ?_)
                      obtain ⟨v31, ev31⟩ : ∃ y : Int32, y = x10 + 1 := ⟨_, rfl⟩
                      have hw := gq_at1 hw ev31
                      refine lv_iinc (v := v31) (lv' := [(2, .int v31), (1, .int x10), (0, .ref (ad 16))]) hx hb dX5_cover_88 hl (k := 2) rfl (by rw [ev31]; rfl) (by decide) rfl (fun ls hl => ?_)
                      refine lv_goto (tgt := 13) hx hb dX5_cover_91 (by decide) ?_
                      exact ih x10 v31 _ _ hw hP hD hS ls (lv_sub hl [2, 1, 0] rfl)
            · have hw := gq_f c16 hw
              refine lv_goto (tgt := 88) hx hb dX5_cover_43 (by decide) ?_
              obtain ⟨v32, ev32⟩ : ∃ y : Int32, y = x10 + 1 := ⟨_, rfl⟩
              have hw := gq_at1 hw ev32
              refine lv_iinc (v := v32) (lv' := [(2, .int v32), (0, .ref (ad 16)), (1, .int x9)]) hx hb dX5_cover_88 hl (k := 2) rfl (by rw [ev32]; rfl) (by decide) rfl (fun ls hl => ?_)
              refine lv_goto (tgt := 13) hx hb dX5_cover_91 (by decide) ?_
              exact ih x9 v32 _ _ hw hP hD hS ls (lv_sub hl [1, 2, 0] rfl)
    obtain ⟨n, hw⟩ := hw
    exact hL13 n (-1) 0 _ _ hw hP hD hS ls (lv_sub hl [2, 1, 0] rfl)
  · have hw := gq_t c8 hw
    refine lv_iconst (v := (-1)) hx hb dX5_cover_7 (by decide) ?_
    exact hz (-1) (Mw_2, Mwl_3, Mws_4, Mf_5, Mpa_6, Mne_7) _ _ _ _ dX5_cover_8 hw hP hD hS

def wl_X5_lay_20 (p1 : Int32) (Mp : Int32) (Md : Int32)   (post : Int32 → Int32 → (Nat → Int32) → Int32 → Prop) : Nat → Int32 → (Nat → Int32) → Prop
  | 0, _, _ => False
  | n20 + 1, x5, Mta_6 => (if Mp ≤ x5 then post 1 p1 Mta_6 0 else (if ((p1 >>> (x5 &&& 31)) &&& 1) = 0 then vp_in x5 9 ∧ gq_nm (upd Mta_6 (x5).toNatClampNeg 0) (fun Mta_9 : Nat → Int32 => gq_nm (x5 + 1) (fun v10 : Int32 => wl_X5_lay_20 p1 Mp Md post n20 v10 Mta_9)) else wp_X5_isDecoy x5 Md (fun (r11 : Int32) => (if r11 = 0 then vp_in x5 9 ∧ gq_nm (upd Mta_6 (x5).toNatClampNeg 0) (fun Mta_14 : Nat → Int32 => gq_nm (x5 + 1) (fun v15 : Int32 => wl_X5_lay_20 p1 Mp Md post n20 v15 Mta_14)) else gq_nm (x5 + 1) (fun v13 : Int32 => wl_X5_lay_20 p1 Mp Md post n20 v13 Mta_6)))))

def wp_X5_lay (p1 : Int32) (Mp : Int32) (Me : Int32) (Md : Int32) (Mk : Nat → Int32) (Mta : Nat → Int32) (Mkn : Nat → Int32) (Mn : Int32) (post : Int32 → Int32 → (Nat → Int32) → Int32 → Prop) : Prop :=
  wp_X5_isSet p1 Mp (fun (r1 : Int32) => (if r1 = 0 then post 0 Md Mta Mn else wp_X5_isFree p1 Mp Me Mk Mkn (fun (r3 : Int32) => (if r3 = 0 then post 0 Md Mta Mn else ∃ k20, wl_X5_lay_20 p1 Mp Md post k20 0 Mta))))

theorem iX5_lay_X5 : ∀ w ∈ wsX50, w ∈ wsX5_lay := by decide +kernel
set_option maxHeartbeats 4000000 in
set_option maxRecDepth 100000 in
theorem c_X5_lay (l : Launch) (D : va_G) (ad : Nat → Nat) (ck : Nat → ClassId) (sz : Nat) (Mp : Int32) (Mv : Int32) (Mb : Int32) (Me : Int32) (Md : Int32) (Mdo : Nat → Int32) (Mk : Nat → Int32) (Mm : Nat → Int32) (Mta : Nat → Int32) (Mkn : Nat → Int32) (Mti : Nat → Int32) (Mrl : Nat → Int32) (Mrr : Nat → Int32) (Mt : Nat → Int32) (Mn : Int32) (Mw : Nat → Int32) (Mwl : Nat → Int32) (Mws : Nat → Int32) (Mf : Int32) (Mpa : Nat → Int32) (Mne : Nat → Int32) (p1 : Int32) (post : Int32 → Int32 → (Nat → Int32) → Int32 → Prop) (hw : wp_X5_lay p1 Mp Me Md Mk Mta Mkn Mn post) : Met l yX5_lay wsX5_lay { frames := 2, cells := 0, slots := 0, locals := 44 } (va_Pc [.ref (ad 16), .int p1] (gq_pre D (tyM ck) (wdM ad ck Mp Mv Mb Me Md Mdo Mk Mm Mta Mkn Mti Mrl Mrr Mt Mn Mw Mwl Mws Mf Mpa Mne) sz)) (va_Qi (fun (r : Int32) (u : Int32 × (Nat → Int32) × Int32) => post r u.1 u.2.1 u.2.2) (gq_at D (va_A (wdM ad ck Mp Mv Mb Me Md Mdo Mk Mm Mta Mkn Mti Mrl Mrr Mt Mn Mw Mwl Mws Mf Mpa Mne) sz) (fun (u : Int32 × (Nat → Int32) × Int32) => (wdM ad ck Mp Mv Mb Me u.1 Mdo Mk Mm u.2.1 Mkn Mti Mrl Mrr Mt u.2.2 Mw Mwl Mws Mf Mpa Mne))) (va_A (wdM ad ck Mp Mv Mb Me Md Mdo Mk Mm Mta Mkn Mti Mrl Mrr Mt Mn Mw Mwl Mws Mf Mpa Mne) sz)) 0 0 (va_A (wdM ad ck Mp Mv Mb Me Md Mdo Mk Mm Mta Mkn Mti Mrl Mrr Mt Mn Mw Mwl Mws Mf Mpa Mne) sz) := by
  refine gq_metz (cc := cX5_lay) (maxL := 3) (lv := [(0, .ref (ad 16)), (1, .int p1)]) (by decide) rfl (Nat.le_of_ble_eq_true rfl) rfl ?_
  intro p e s m below meth c A Q ls H locs hx hb hml hown hts hnw hA hK hP hD hS hl hz
  refine lv_aload_n hx hb dX5_lay_0 rfl (lv_at hl 0 rfl) ?_
  refine lv_iload_n hx hb dX5_lay_1 rfl (lv_at hl 1 rfl) ?_
  refine gq_calli (wsN := fun _ => (wdM ad ck Mp Mv Mb Me Md Mdo Mk Mm Mta Mkn Mti Mrl Mrr Mt Mn Mw Mwl Mws Mf Mpa Mne)) (va_runV (As := [.int p1]) (rest := []) ⟨hx, hb, hml, hown, hts⟩ (c_X5_isSet l D ad ck H.size Mp Mv Mb Me Md Mdo Mk Mm Mta Mkn Mti Mrl Mrr Mt Mn Mw Mwl Mws Mf Mpa Mne p1 _ hw) (cwV 1 hts gX5_lay_X5_isSet rfl rfl rfl (by decide +kernel) ⟨Nat.le_of_ble_eq_true rfl, Nat.le_of_ble_eq_true rfl⟩) (gq_preV hK [0, 1, 2, 3, 4, 5, 6, 7, 8, 9, 10, 11, 12, 13] rfl hP hD [0, 1, 2, 3, 4, 5, 6, 7, 8, 9, 10, 11, 12, 13, 14] rfl rfl hnw 5 0 rfl rfl) rfl rfl hl.1 rfl (lv_room (Nat.le_of_ble_eq_true rfl)) dX5_lay_2 ⟨Nat.zero_le _, Nat.zero_le _⟩) hP hD hS hA [0, 1, 2, 3, 4, 5, 6, 7, 8, 9, 10, 11, 12, 13, 14] [] rfl rfl rfl (by decide) [0, 1, 2, 3, 4, 5, 6, 7, 8, 9, 10, 11, 12, 13, 14] rfl (fun _ => rfl) (fun r1 _ H locs hw hP hD hS => ?_)
  refine lv_if_eq (tgt := 16) hx hb dX5_lay_5 (by decide) (fun c2 => ?_) (fun c2 => ?_)
  · have hw := gq_t c2 hw
    refine lv_iconst (v := 0) hx hb dX5_lay_16 (by decide) ?_
    exact hz 0 (Md, Mta, Mn) _ _ _ _ dX5_lay_17 gq_zb0 hw hP hD hS
  · have hw := gq_f c2 hw
    refine lv_aload_n hx hb dX5_lay_8 rfl (lv_at hl 0 rfl) ?_
    refine lv_iload_n hx hb dX5_lay_9 rfl (lv_at hl 1 rfl) ?_
    refine gq_calli (wsN := fun _ => (wdM ad ck Mp Mv Mb Me Md Mdo Mk Mm Mta Mkn Mti Mrl Mrr Mt Mn Mw Mwl Mws Mf Mpa Mne)) (va_runV (As := [.int p1]) (rest := []) ⟨hx, hb, hml, hown, hts⟩ (c_X5_isFree l D ad ck H.size Mp Mv Mb Me Md Mdo Mk Mm Mta Mkn Mti Mrl Mrr Mt Mn Mw Mwl Mws Mf Mpa Mne p1 _ hw) (cwV 1 hts gX5_lay_X5_isFree rfl rfl rfl (by decide +kernel) ⟨Nat.le_of_ble_eq_true rfl, Nat.le_of_ble_eq_true rfl⟩) (gq_preV hK [0, 1, 2, 3, 4, 5, 6, 7, 8, 9, 10, 11, 12, 13] rfl hP hD [0, 1, 2, 3, 4, 5, 6, 7, 8, 9, 10, 11, 12, 13, 14] rfl rfl hnw 5 0 rfl rfl) rfl rfl hl.1 rfl (lv_room (Nat.le_of_ble_eq_true rfl)) dX5_lay_10 ⟨Nat.zero_le _, Nat.zero_le _⟩) hP hD hS hA [0, 1, 2, 3, 4, 5, 6, 7, 8, 9, 10, 11, 12, 13, 14] [] rfl rfl rfl (by decide) [0, 1, 2, 3, 4, 5, 6, 7, 8, 9, 10, 11, 12, 13, 14] rfl (fun _ => rfl) (fun r3 _ H locs hw hP hD hS => ?_)
    refine lv_if_ne (tgt := 18) hx hb dX5_lay_13 (by decide) (fun c4 => ?_) (fun c4 => ?_)
    · have hw := gq_f c4 hw
      refine lv_iconst (v := 0) hx hb dX5_lay_18 (by decide) ?_
      refine lv_istore_n (lv' := [(2, .int 0), (0, .ref (ad 16)), (1, .int p1)]) hx hb dX5_lay_19 rfl hl (by decide) rfl (fun ls hl => ?_)
      have hL20 : ∀ (n : Nat) (x5 : Int32) (Mta_6 : Nat → Int32) (H : Heap) (locs : List Loc), wl_X5_lay_20 p1 Mp Md post n x5 Mta_6 → va_P D vwCl (wdM ad ck Mp Mv Mb Me Md Mdo Mk Mm Mta_6 Mkn Mti Mrl Mrr Mt Mn Mw Mwl Mws Mf Mpa Mne) H → va_D A (wdM ad ck Mp Mv Mb Me Md Mdo Mk Mm Mta_6 Mkn Mti Mrl Mrr Mt Mn Mw Mwl Mws Mf Mpa Mne) → va_S A s.heap H locs → ∀ ls : Array Slot, lv_has ls 3 [(0, .ref (ad 16)), (1, .int p1), (2, .int x5)] → W p l e { frames := 2, cells := 0, slots := 0, locals := 44 } s m ([.ref (ad 16), .int p1] : List Value).toArray below meth c H locs 0 0 Q (F0 m 20 ls []) := by
        intro n
        induction n with
        | zero =>
          intro x5 Mta_6 H locs hw
          exact hw.elim
        | succ n ih =>
          intro x5 Mta_6 H locs hw hP hD hS ls hl
          refine lv_iload_n hx hb dX5_lay_20 rfl (lv_at hl 2 rfl) ?_
          refine lv_aload_n hx hb dX5_lay_21 rfl (lv_at hl 0 rfl) ?_
          refine va_get (D := D) (ci := 5) (v := .int Mp) (C := RX5) (T := TX5) (N := 21) hx hb hts iX5_lay_X5 hown hK hP 0 rfl rfl 0 (by decide) (hts (.fieldLink RX5 7 "DecoyHouseModel" "places" "I") (by decide +kernel)) (fun _ h9 => h9) rfl dX5_lay_22 ?_
          refine lv_icmp_ge (tgt := 57) hx hb dX5_lay_25 (by decide) (fun c7 => ?_) (fun c7 => ?_)
          · have hw := gq_t c7 hw
            refine lv_aload_n hx hb dX5_lay_57 rfl (lv_at hl 0 rfl) ?_
            refine lv_iload_n hx hb dX5_lay_58 rfl (lv_at hl 1 rfl) ?_
            refine va_put (D := D) (ci := 5) (v := .int p1) (ty := .int) (C := RX5) (T := TX5) (N := 21) hx hb hts iX5_lay_X5 tyX5 tyX5_ok nmX5 hown hK hP hD hS 0 rfl rfl 4 (by decide) (hts (.fieldLink RX5 70 "DecoyHouseModel" "decoys" "I") (by decide +kernel)) (fun _ h9 => h9) rfl (by decide +kernel) rfl rfl (Nat.le_of_ble_eq_true rfl) dX5_lay_59 (fun H locs hP hD hS => ?_)
            have hP : va_P D vwCl (wdM ad ck Mp Mv Mb Me p1 Mdo Mk Mm Mta_6 Mkn Mti Mrl Mrr Mt Mn Mw Mwl Mws Mf Mpa Mne) H := hP
            have hD : va_D A (wdM ad ck Mp Mv Mb Me p1 Mdo Mk Mm Mta_6 Mkn Mti Mrl Mrr Mt Mn Mw Mwl Mws Mf Mpa Mne) := hD
            refine lv_aload_n hx hb dX5_lay_62 rfl (lv_at hl 0 rfl) ?_
            refine lv_iconst (v := 0) hx hb dX5_lay_63 (by decide) ?_
            refine va_put (D := D) (ci := 5) (v := .int 0) (ty := .int) (C := RX5) (T := TX5) (N := 21) hx hb hts iX5_lay_X5 tyX5 tyX5_ok nmX5 hown hK hP hD hS 0 rfl rfl 14 (by decide) (hts (.fieldLink RX5 73 "DecoyHouseModel" "told" "I") (by decide +kernel)) (fun _ h9 => h9) rfl (by decide +kernel) rfl rfl (Nat.le_of_ble_eq_true rfl) dX5_lay_64 (fun H locs hP hD hS => ?_)
            have hP : va_P D vwCl (wdM ad ck Mp Mv Mb Me p1 Mdo Mk Mm Mta_6 Mkn Mti Mrl Mrr Mt 0 Mw Mwl Mws Mf Mpa Mne) H := hP
            have hD : va_D A (wdM ad ck Mp Mv Mb Me p1 Mdo Mk Mm Mta_6 Mkn Mti Mrl Mrr Mt 0 Mw Mwl Mws Mf Mpa Mne) := hD
            refine lv_iconst (v := 1) hx hb dX5_lay_67 (by decide) ?_
            exact hz 1 (p1, Mta_6, 0) _ _ _ _ dX5_lay_68 gq_zb1 hw hP hD hS
          · have hw := gq_f c7 hw
            refine lv_iload_n hx hb dX5_lay_28 rfl (lv_at hl 1 rfl) ?_
            refine lv_iload_n hx hb dX5_lay_29 rfl (lv_at hl 2 rfl) ?_
            refine lv_ishr hx hb dX5_lay_30 ?_
            refine lv_iconst (v := 1) hx hb dX5_lay_31 (by decide) ?_
            refine lv_iand hx hb dX5_lay_32 ?_
            refine lv_if_eq (tgt := 44) hx hb dX5_lay_33 (by decide) (fun c8 => ?_) (fun c8 => ?_)
            · have hw := gq_t c8 hw
              refine lv_aload_n hx hb dX5_lay_44 rfl (lv_at hl 0 rfl) ?_
              refine va_get (D := D) (ci := 5) (v := .ref (ad 20)) (C := RX5) (T := TX5) (N := 21) hx hb hts iX5_lay_X5 hown hK hP 0 rfl rfl 8 (by decide) (hts (.fieldLink RX5 30 "DecoyHouseModel" "talesOf" "[I") (by decide +kernel)) (fun _ h9 => h9) rfl dX5_lay_45 ?_
              refine lv_iload_n hx hb dX5_lay_48 rfl (lv_at hl 2 rfl) ?_
              refine lv_iconst (v := 0) hx hb dX5_lay_49 (by decide) ?_
              refine va_iast hx hb hK hP hD hS 4 3 rfl rfl hw.1 dX5_lay_50 (fun H locs hP hD hS => ?_)
              obtain ⟨Mta_9, eMta_9⟩ : ∃ y : Nat → Int32, y = upd Mta_6 (x5).toNatClampNeg 0 := ⟨_, rfl⟩
              have hw := gq_at1 hw.2 eMta_9
              have hP : va_P D vwCl (wdM ad ck Mp Mv Mb Me Md Mdo Mk Mm Mta_9 Mkn Mti Mrl Mrr Mt Mn Mw Mwl Mws Mf Mpa Mne) H := by rw [eMta_9]; exact hP
              have hD : va_D A (wdM ad ck Mp Mv Mb Me Md Mdo Mk Mm Mta_9 Mkn Mti Mrl Mrr Mt Mn Mw Mwl Mws Mf Mpa Mne) := by rw [eMta_9]; exact hD
              obtain ⟨v10, ev10⟩ : ∃ y : Int32, y = x5 + 1 := ⟨_, rfl⟩
              have hw := gq_at1 hw ev10
              refine lv_iinc (v := v10) (lv' := [(2, .int v10), (0, .ref (ad 16)), (1, .int p1)]) hx hb dX5_lay_51 hl (k := 2) rfl (by rw [ev10]; rfl) (by decide) rfl (fun ls hl => ?_)
              refine lv_goto (tgt := 20) hx hb dX5_lay_54 (by decide) ?_
              exact ih v10 Mta_9 _ _ hw hP hD hS ls (lv_sub hl [1, 2, 0] rfl)
            · have hw := gq_f c8 hw
              refine lv_aload_n hx hb dX5_lay_36 rfl (lv_at hl 0 rfl) ?_
              refine lv_iload_n hx hb dX5_lay_37 rfl (lv_at hl 2 rfl) ?_
              refine gq_calli (wsN := fun _ => (wdM ad ck Mp Mv Mb Me Md Mdo Mk Mm Mta_6 Mkn Mti Mrl Mrr Mt Mn Mw Mwl Mws Mf Mpa Mne)) (va_runV (As := [.int x5]) (rest := []) ⟨hx, hb, hml, hown, hts⟩ (c_X5_isDecoy l D ad ck H.size Mp Mv Mb Me Md Mdo Mk Mm Mta_6 Mkn Mti Mrl Mrr Mt Mn Mw Mwl Mws Mf Mpa Mne x5 _ hw) (cwV 1 hts gX5_lay_X5_isDecoy rfl rfl rfl (by decide +kernel) ⟨Nat.le_of_ble_eq_true rfl, Nat.le_of_ble_eq_true rfl⟩) (gq_preV hK [0, 1, 2, 3, 4, 5, 6, 7, 8, 9, 10, 11, 12, 13] rfl hP hD [0, 1, 2, 3, 4, 5, 6, 7, 8, 9, 10, 11, 12, 13, 14] rfl rfl hnw 5 0 rfl rfl) rfl rfl hl.1 rfl (lv_room (Nat.le_of_ble_eq_true rfl)) dX5_lay_38 ⟨Nat.zero_le _, Nat.zero_le _⟩) hP hD hS hA [0, 1, 2, 3, 4, 5, 6, 7, 8, 9, 10, 11, 12, 13, 14] [] rfl rfl rfl (by decide) [0, 1, 2, 3, 4, 5, 6, 7, 8, 9, 10, 11, 12, 13, 14] rfl (fun _ => rfl) (fun r11 _ H locs hw hP hD hS => ?_)
              refine lv_if_ne (tgt := 51) hx hb dX5_lay_41 (by decide) (fun c12 => ?_) (fun c12 => ?_)
              · have hw := gq_f c12 hw
                obtain ⟨v13, ev13⟩ : ∃ y : Int32, y = x5 + 1 := ⟨_, rfl⟩
                have hw := gq_at1 hw ev13
                refine lv_iinc (v := v13) (lv' := [(2, .int v13), (0, .ref (ad 16)), (1, .int p1)]) hx hb dX5_lay_51 hl (k := 2) rfl (by rw [ev13]; rfl) (by decide) rfl (fun ls hl => ?_)
                refine lv_goto (tgt := 20) hx hb dX5_lay_54 (by decide) ?_
                exact ih v13 Mta_6 _ _ hw hP hD hS ls (lv_sub hl [1, 2, 0] rfl)
              · have hw := gq_t c12 hw
                refine lv_aload_n hx hb dX5_lay_44 rfl (lv_at hl 0 rfl) ?_
                refine va_get (D := D) (ci := 5) (v := .ref (ad 20)) (C := RX5) (T := TX5) (N := 21) hx hb hts iX5_lay_X5 hown hK hP 0 rfl rfl 8 (by decide) (hts (.fieldLink RX5 30 "DecoyHouseModel" "talesOf" "[I") (by decide +kernel)) (fun _ h9 => h9) rfl dX5_lay_45 ?_
                refine lv_iload_n hx hb dX5_lay_48 rfl (lv_at hl 2 rfl) ?_
                refine lv_iconst (v := 0) hx hb dX5_lay_49 (by decide) ?_
                refine va_iast hx hb hK hP hD hS 4 3 rfl rfl hw.1 dX5_lay_50 (fun H locs hP hD hS => ?_)
                obtain ⟨Mta_14, eMta_14⟩ : ∃ y : Nat → Int32, y = upd Mta_6 (x5).toNatClampNeg 0 := ⟨_, rfl⟩
                have hw := gq_at1 hw.2 eMta_14
                have hP : va_P D vwCl (wdM ad ck Mp Mv Mb Me Md Mdo Mk Mm Mta_14 Mkn Mti Mrl Mrr Mt Mn Mw Mwl Mws Mf Mpa Mne) H := by rw [eMta_14]; exact hP
                have hD : va_D A (wdM ad ck Mp Mv Mb Me Md Mdo Mk Mm Mta_14 Mkn Mti Mrl Mrr Mt Mn Mw Mwl Mws Mf Mpa Mne) := by rw [eMta_14]; exact hD
                obtain ⟨v15, ev15⟩ : ∃ y : Int32, y = x5 + 1 := ⟨_, rfl⟩
                have hw := gq_at1 hw ev15
                refine lv_iinc (v := v15) (lv' := [(2, .int v15), (0, .ref (ad 16)), (1, .int p1)]) hx hb dX5_lay_51 hl (k := 2) rfl (by rw [ev15]; rfl) (by decide) rfl (fun ls hl => ?_)
                refine lv_goto (tgt := 20) hx hb dX5_lay_54 (by decide) ?_
                exact ih v15 Mta_14 _ _ hw hP hD hS ls (lv_sub hl [1, 2, 0] rfl)
      obtain ⟨n, hw⟩ := hw
      exact hL20 n 0 Mta _ _ hw hP hD hS ls (lv_sub hl [1, 2, 0] rfl)
    · have hw := gq_t c4 hw
      refine lv_iconst (v := 0) hx hb dX5_lay_16 (by decide) ?_
      exact hz 0 (Md, Mta, Mn) _ _ _ _ dX5_lay_17 gq_zb0 hw hP hD hS

def wl_X5_unlike_22 (p1 : Int32) (Mp : Int32) (Mv : Int32) (Md : Int32) (Mm : Nat → Int32)   (post : Int32 → Prop) : Nat → Int32 → Int32 → Prop
  | 0, _, _ => False
  | n22 + 1, x5, x6 => (if Mp ≤ x6 then post x5 else wp_X5_isDecoy x6 Md (fun (r8 : Int32) => (if r8 = 0 then vp_in p1 9 ∧ vp_in x6 9 ∧ wp_X5_bits (((Mm (p1).toNatClampNeg) ^^^ (Mm (x6).toNatClampNeg)) &&& Mv) (fun (r10 : Int32) => (if x5 = (-1) then gq_nm (x6 + 1) (fun v12 : Int32 => wl_X5_unlike_22 p1 Mp Mv Md Mm post n22 r10 v12) else (if x5 ≤ r10 then gq_nm (x6 + 1) (fun v14 : Int32 => wl_X5_unlike_22 p1 Mp Mv Md Mm post n22 x5 v14) else gq_nm (x6 + 1) (fun v15 : Int32 => wl_X5_unlike_22 p1 Mp Mv Md Mm post n22 r10 v15)))) else gq_nm (x6 + 1) (fun v16 : Int32 => wl_X5_unlike_22 p1 Mp Mv Md Mm post n22 x5 v16))))

def wp_X5_unlike (p1 : Int32) (Mp : Int32) (Mv : Int32) (Md : Int32) (Mm : Nat → Int32) (post : Int32 → Prop) : Prop :=
  wp_X5_isPlace p1 Mp (fun (r1 : Int32) => (if r1 = 0 then post (-1) else wp_X5_isDecoy p1 Md (fun (r3 : Int32) => (if r3 = 0 then post (-1) else ∃ k22, wl_X5_unlike_22 p1 Mp Mv Md Mm post k22 (-1) 0))))

theorem iX5_unlike_X5 : ∀ w ∈ wsX50, w ∈ wsX5_unlike := by decide +kernel
set_option maxHeartbeats 4000000 in
set_option maxRecDepth 100000 in
theorem c_X5_unlike (l : Launch) (D : va_G) (ad : Nat → Nat) (ck : Nat → ClassId) (sz : Nat) (Mp : Int32) (Mv : Int32) (Mb : Int32) (Me : Int32) (Md : Int32) (Mdo : Nat → Int32) (Mk : Nat → Int32) (Mm : Nat → Int32) (Mta : Nat → Int32) (Mkn : Nat → Int32) (Mti : Nat → Int32) (Mrl : Nat → Int32) (Mrr : Nat → Int32) (Mt : Nat → Int32) (Mn : Int32) (Mw : Nat → Int32) (Mwl : Nat → Int32) (Mws : Nat → Int32) (Mf : Int32) (Mpa : Nat → Int32) (Mne : Nat → Int32) (p1 : Int32) (post : Int32 → Prop) (hw : wp_X5_unlike p1 Mp Mv Md Mm post) : Met l yX5_unlike wsX5_unlike { frames := 2, cells := 0, slots := 0, locals := 43 } (va_Pc [.ref (ad 16), .int p1] (gq_pre D (tyM ck) (wdM ad ck Mp Mv Mb Me Md Mdo Mk Mm Mta Mkn Mti Mrl Mrr Mt Mn Mw Mwl Mws Mf Mpa Mne) sz)) (va_Qi (fun (r : Int32) (_ : Unit) => post r ) (gq_at D (va_A (wdM ad ck Mp Mv Mb Me Md Mdo Mk Mm Mta Mkn Mti Mrl Mrr Mt Mn Mw Mwl Mws Mf Mpa Mne) sz) (fun (_ : Unit) => (wdM ad ck Mp Mv Mb Me Md Mdo Mk Mm Mta Mkn Mti Mrl Mrr Mt Mn Mw Mwl Mws Mf Mpa Mne))) (va_A (wdM ad ck Mp Mv Mb Me Md Mdo Mk Mm Mta Mkn Mti Mrl Mrr Mt Mn Mw Mwl Mws Mf Mpa Mne) sz)) 0 0 (va_A (wdM ad ck Mp Mv Mb Me Md Mdo Mk Mm Mta Mkn Mti Mrl Mrr Mt Mn Mw Mwl Mws Mf Mpa Mne) sz) := by
  refine gq_meti (cc := cX5_unlike) (maxL := 5) (lv := [(0, .ref (ad 16)), (1, .int p1)]) (by decide) rfl (Nat.le_of_ble_eq_true rfl) rfl ?_
  intro p e s m below meth c A Q ls H locs hx hb hml hown hts hnw hA hK hP hD hS hl hz
  refine lv_aload_n hx hb dX5_unlike_0 rfl (lv_at hl 0 rfl) ?_
  refine lv_iload_n hx hb dX5_unlike_1 rfl (lv_at hl 1 rfl) ?_
  refine gq_calli (wsN := fun _ => (wdM ad ck Mp Mv Mb Me Md Mdo Mk Mm Mta Mkn Mti Mrl Mrr Mt Mn Mw Mwl Mws Mf Mpa Mne)) (va_runV (As := [.int p1]) (rest := []) ⟨hx, hb, hml, hown, hts⟩ (c_X5_isPlace l D ad ck H.size Mp Mv Mb Me Md Mdo Mk Mm Mta Mkn Mti Mrl Mrr Mt Mn Mw Mwl Mws Mf Mpa Mne p1 _ hw) (cwV 1 hts gX5_unlike_X5_isPlace rfl rfl rfl (by decide +kernel) ⟨Nat.le_of_ble_eq_true rfl, Nat.le_of_ble_eq_true rfl⟩) (gq_preV hK [0, 1, 2, 3, 4, 5, 6, 7, 8, 9, 10, 11, 12, 13] rfl hP hD [0, 1, 2, 3, 4, 5, 6, 7, 8, 9, 10, 11, 12, 13, 14] rfl rfl hnw 5 0 rfl rfl) rfl rfl hl.1 rfl (lv_room (Nat.le_of_ble_eq_true rfl)) dX5_unlike_2 ⟨Nat.zero_le _, Nat.zero_le _⟩) hP hD hS hA [0, 1, 2, 3, 4, 5, 6, 7, 8, 9, 10, 11, 12, 13, 14] [] rfl rfl rfl (by decide) [0, 1, 2, 3, 4, 5, 6, 7, 8, 9, 10, 11, 12, 13, 14] rfl (fun _ => rfl) (fun r1 _ H locs hw hP hD hS => ?_)
  refine lv_if_eq (tgt := 16) hx hb dX5_unlike_5 (by decide) (fun c2 => ?_) (fun c2 => ?_)
  · have hw := gq_t c2 hw
    refine lv_iconst (v := (-1)) hx hb dX5_unlike_16 (by decide) ?_
    exact hz (-1) () _ _ _ _ dX5_unlike_17 hw hP hD hS
  · have hw := gq_f c2 hw
    refine lv_aload_n hx hb dX5_unlike_8 rfl (lv_at hl 0 rfl) ?_
    refine lv_iload_n hx hb dX5_unlike_9 rfl (lv_at hl 1 rfl) ?_
    refine gq_calli (wsN := fun _ => (wdM ad ck Mp Mv Mb Me Md Mdo Mk Mm Mta Mkn Mti Mrl Mrr Mt Mn Mw Mwl Mws Mf Mpa Mne)) (va_runV (As := [.int p1]) (rest := []) ⟨hx, hb, hml, hown, hts⟩ (c_X5_isDecoy l D ad ck H.size Mp Mv Mb Me Md Mdo Mk Mm Mta Mkn Mti Mrl Mrr Mt Mn Mw Mwl Mws Mf Mpa Mne p1 _ hw) (cwV 1 hts gX5_unlike_X5_isDecoy rfl rfl rfl (by decide +kernel) ⟨Nat.le_of_ble_eq_true rfl, Nat.le_of_ble_eq_true rfl⟩) (gq_preV hK [0, 1, 2, 3, 4, 5, 6, 7, 8, 9, 10, 11, 12, 13] rfl hP hD [0, 1, 2, 3, 4, 5, 6, 7, 8, 9, 10, 11, 12, 13, 14] rfl rfl hnw 5 0 rfl rfl) rfl rfl hl.1 rfl (lv_room (Nat.le_of_ble_eq_true rfl)) dX5_unlike_10 ⟨Nat.zero_le _, Nat.zero_le _⟩) hP hD hS hA [0, 1, 2, 3, 4, 5, 6, 7, 8, 9, 10, 11, 12, 13, 14] [] rfl rfl rfl (by decide) [0, 1, 2, 3, 4, 5, 6, 7, 8, 9, 10, 11, 12, 13, 14] rfl (fun _ => rfl) (fun r3 _ H locs hw hP hD hS => ?_)
    refine lv_if_ne (tgt := 18) hx hb dX5_unlike_13 (by decide) (fun c4 => ?_) (fun c4 => ?_)
    · have hw := gq_f c4 hw
      refine lv_iconst (v := (-1)) hx hb dX5_unlike_18 (by decide) ?_
      refine lv_istore_n (lv' := [(2, .int (-1)), (0, .ref (ad 16)), (1, .int p1)]) hx hb dX5_unlike_19 rfl hl (by decide) rfl (fun ls hl => ?_)
      refine lv_iconst (v := 0) hx hb dX5_unlike_20 (by decide) ?_
      refine lv_istore_n (lv' := [(3, .int 0), (2, .int (-1)), (0, .ref (ad 16)), (1, .int p1)]) hx hb dX5_unlike_21 rfl hl (by decide) rfl (fun ls hl => ?_)
      have hL22 : ∀ (n : Nat) (x5 : Int32) (x6 : Int32) (H : Heap) (locs : List Loc), wl_X5_unlike_22 p1 Mp Mv Md Mm post n x5 x6 → va_P D vwCl (wdM ad ck Mp Mv Mb Me Md Mdo Mk Mm Mta Mkn Mti Mrl Mrr Mt Mn Mw Mwl Mws Mf Mpa Mne) H → va_D A (wdM ad ck Mp Mv Mb Me Md Mdo Mk Mm Mta Mkn Mti Mrl Mrr Mt Mn Mw Mwl Mws Mf Mpa Mne) → va_S A s.heap H locs → ∀ ls : Array Slot, lv_has ls 5 [(0, .ref (ad 16)), (1, .int p1), (2, .int x5), (3, .int x6)] → W p l e { frames := 2, cells := 0, slots := 0, locals := 43 } s m ([.ref (ad 16), .int p1] : List Value).toArray below meth c H locs 0 0 Q (F0 m 22 ls []) := by
        intro n
        induction n with
        | zero =>
          intro x5 x6 H locs hw
          exact hw.elim
        | succ n ih =>
          intro x5 x6 H locs hw hP hD hS ls hl
          refine lv_iload_n hx hb dX5_unlike_22 rfl (lv_at hl 3 rfl) ?_
          refine lv_aload_n hx hb dX5_unlike_23 rfl (lv_at hl 0 rfl) ?_
          refine va_get (D := D) (ci := 5) (v := .int Mp) (C := RX5) (T := TX5) (N := 21) hx hb hts iX5_unlike_X5 hown hK hP 0 rfl rfl 0 (by decide) (hts (.fieldLink RX5 7 "DecoyHouseModel" "places" "I") (by decide +kernel)) (fun _ h9 => h9) rfl dX5_unlike_24 ?_
          refine lv_icmp_ge (tgt := 88) hx hb dX5_unlike_27 (by decide) (fun c7 => ?_) (fun c7 => ?_)
          · have hw := gq_t c7 hw
            refine lv_iload_n hx hb dX5_unlike_88 rfl (lv_at hl 2 rfl) ?_
            exact hz x5 () _ _ _ _ dX5_unlike_89 hw hP hD hS
          · have hw := gq_f c7 hw
            refine lv_aload_n hx hb dX5_unlike_30 rfl (lv_at hl 0 rfl) ?_
            refine lv_iload_n hx hb dX5_unlike_31 rfl (lv_at hl 3 rfl) ?_
            refine gq_calli (wsN := fun _ => (wdM ad ck Mp Mv Mb Me Md Mdo Mk Mm Mta Mkn Mti Mrl Mrr Mt Mn Mw Mwl Mws Mf Mpa Mne)) (va_runV (As := [.int x6]) (rest := []) ⟨hx, hb, hml, hown, hts⟩ (c_X5_isDecoy l D ad ck H.size Mp Mv Mb Me Md Mdo Mk Mm Mta Mkn Mti Mrl Mrr Mt Mn Mw Mwl Mws Mf Mpa Mne x6 _ hw) (cwV 1 hts gX5_unlike_X5_isDecoy rfl rfl rfl (by decide +kernel) ⟨Nat.le_of_ble_eq_true rfl, Nat.le_of_ble_eq_true rfl⟩) (gq_preV hK [0, 1, 2, 3, 4, 5, 6, 7, 8, 9, 10, 11, 12, 13] rfl hP hD [0, 1, 2, 3, 4, 5, 6, 7, 8, 9, 10, 11, 12, 13, 14] rfl rfl hnw 5 0 rfl rfl) rfl rfl hl.1 rfl (lv_room (Nat.le_of_ble_eq_true rfl)) dX5_unlike_32 ⟨Nat.zero_le _, Nat.zero_le _⟩) hP hD hS hA [0, 1, 2, 3, 4, 5, 6, 7, 8, 9, 10, 11, 12, 13, 14] [] rfl rfl rfl (by decide) [0, 1, 2, 3, 4, 5, 6, 7, 8, 9, 10, 11, 12, 13, 14] rfl (fun _ => rfl) (fun r8 _ H locs hw hP hD hS => ?_)
            refine lv_if_eq (tgt := 41) hx hb dX5_unlike_35 (by decide) (fun c9 => ?_) (fun c9 => ?_)
            · have hw := gq_t c9 hw
              refine lv_aload_n hx hb dX5_unlike_41 rfl (lv_at hl 0 rfl) ?_
              refine va_get (D := D) (ci := 5) (v := .ref (ad 19)) (C := RX5) (T := TX5) (N := 21) hx hb hts iX5_unlike_X5 hown hK hP 0 rfl rfl 7 (by decide) (hts (.fieldLink RX5 27 "DecoyHouseModel" "marks" "[I") (by decide +kernel)) (fun _ h9 => h9) rfl dX5_unlike_42 ?_
              refine lv_iload_n hx hb dX5_unlike_45 rfl (lv_at hl 1 rfl) ?_
              refine va_iald hx hb hK hP 3 2 rfl rfl hw.1 dX5_unlike_46 ?_
              have hw := hw.2
              refine lv_aload_n hx hb dX5_unlike_47 rfl (lv_at hl 0 rfl) ?_
              refine va_get (D := D) (ci := 5) (v := .ref (ad 19)) (C := RX5) (T := TX5) (N := 21) hx hb hts iX5_unlike_X5 hown hK hP 0 rfl rfl 7 (by decide) (hts (.fieldLink RX5 27 "DecoyHouseModel" "marks" "[I") (by decide +kernel)) (fun _ h9 => h9) rfl dX5_unlike_48 ?_
              refine lv_iload_n hx hb dX5_unlike_51 rfl (lv_at hl 3 rfl) ?_
              refine va_iald hx hb hK hP 3 2 rfl rfl hw.1 dX5_unlike_52 ?_
              have hw := hw.2
              refine lv_ixor hx hb dX5_unlike_53 ?_
              refine lv_aload_n hx hb dX5_unlike_54 rfl (lv_at hl 0 rfl) ?_
              refine va_get (D := D) (ci := 5) (v := .int Mv) (C := RX5) (T := TX5) (N := 21) hx hb hts iX5_unlike_X5 hown hK hP 0 rfl rfl 1 (by decide) (hts (.fieldLink RX5 13 "DecoyHouseModel" "visible" "I") (by decide +kernel)) (fun _ h9 => h9) rfl dX5_unlike_55 ?_
              refine lv_iand hx hb dX5_unlike_58 ?_
              refine gq_calli (wsN := fun _ => (wdM ad ck Mp Mv Mb Me Md Mdo Mk Mm Mta Mkn Mti Mrl Mrr Mt Mn Mw Mwl Mws Mf Mpa Mne)) (va_runS (As := [.int (((Mm (p1).toNatClampNeg) ^^^ (Mm (x6).toNatClampNeg)) &&& Mv)]) (rest := []) ⟨hx, hb, hml, hown, hts⟩ (c_X5_bits l D H.size (((Mm (p1).toNatClampNeg) ^^^ (Mm (x6).toNatClampNeg)) &&& Mv) _ hw) (va_cwS 1 hts gX5_unlike_X5_bits rfl rfl rfl (by decide +kernel) ⟨Nat.le_of_ble_eq_true rfl, Nat.le_of_ble_eq_true rfl⟩) (gq_preS hK [] rfl hP hD [] rfl rfl hnw) rfl rfl hl.1 rfl (lv_room (Nat.le_of_ble_eq_true rfl)) dX5_unlike_59 ⟨Nat.zero_le _, Nat.zero_le _⟩) hP hD hS hA [] [0, 1, 2, 3, 4, 5, 6, 7, 8, 9, 10, 11, 12, 13, 14] rfl rfl rfl (by decide) [0, 1, 2, 3, 4, 5, 6, 7, 8, 9, 10, 11, 12, 13, 14] rfl (fun _ => rfl) (fun r10 _ H locs hw hP hD hS => ?_)
              refine lv_istore (lv' := [(4, .int r10), (0, .ref (ad 16)), (1, .int p1), (2, .int x5), (3, .int x6)]) hx hb dX5_unlike_62 hl (by decide) rfl (fun ls hl => ?_)
              refine lv_iload_n hx hb dX5_unlike_64 rfl (lv_at hl 3 rfl) ?_
              refine lv_iconst (v := (-1)) hx hb dX5_unlike_65 (by decide) ?_
              refine lv_icmp_eq (tgt := 75) hx hb dX5_unlike_66 (by decide) (fun c11 => ?_) (fun c11 => ?_)
              · have hw := gq_t c11 hw
                refine lv_iload hx hb dX5_unlike_75 (lv_at hl 0 rfl) ?_
                refine lv_goto (tgt := 81) hx hb dX5_unlike_77 (by decide) ?_
                refine lv_istore_n (lv' := [(2, .int r10), (4, .int r10), (0, .ref (ad 16)), (1, .int p1), (3, .int x6)]) hx hb dX5_unlike_81 rfl hl (by decide) rfl (fun ls hl => ?_)
                obtain ⟨v12, ev12⟩ : ∃ y : Int32, y = x6 + 1 := ⟨_, rfl⟩
                have hw := gq_at1 hw ev12
                refine lv_iinc (v := v12) (lv' := [(3, .int v12), (2, .int r10), (4, .int r10), (0, .ref (ad 16)), (1, .int p1)]) hx hb dX5_unlike_82 hl (k := 4) rfl (by rw [ev12]; rfl) (by decide) rfl (fun ls hl => ?_)
                refine lv_goto (tgt := 22) hx hb dX5_unlike_85 (by decide) ?_
                exact ih r10 v12 _ _ hw hP hD hS ls (lv_sub hl [3, 4, 1, 0] rfl)
              · have hw := gq_f c11 hw
                refine lv_iload hx hb dX5_unlike_69 (lv_at hl 0 rfl) ?_
                refine lv_iload_n hx hb dX5_unlike_71 rfl (lv_at hl 3 rfl) ?_
                refine lv_icmp_ge (tgt := 80) hx hb dX5_unlike_72 (by decide) (fun c13 => ?_) (fun c13 => ?_)
                · have hw := gq_t c13 hw
                  refine lv_iload_n hx hb dX5_unlike_80 rfl (lv_at hl 3 rfl) ?_
                  refine lv_istore_n (lv' := [(2, .int x5), (4, .int r10), (0, .ref (ad 16)), (1, .int p1), (3, .int x6)]) hx hb dX5_unlike_81 rfl hl (by decide) rfl (fun ls hl => ?_)
                  obtain ⟨v14, ev14⟩ : ∃ y : Int32, y = x6 + 1 := ⟨_, rfl⟩
                  have hw := gq_at1 hw ev14
                  refine lv_iinc (v := v14) (lv' := [(3, .int v14), (2, .int x5), (4, .int r10), (0, .ref (ad 16)), (1, .int p1)]) hx hb dX5_unlike_82 hl (k := 4) rfl (by rw [ev14]; rfl) (by decide) rfl (fun ls hl => ?_)
                  refine lv_goto (tgt := 22) hx hb dX5_unlike_85 (by decide) ?_
                  exact ih x5 v14 _ _ hw hP hD hS ls (lv_sub hl [3, 4, 1, 0] rfl)
                · have hw := gq_f c13 hw
                  refine lv_iload hx hb dX5_unlike_75 (lv_at hl 0 rfl) ?_
                  refine lv_goto (tgt := 81) hx hb dX5_unlike_77 (by decide) ?_
                  refine lv_istore_n (lv' := [(2, .int r10), (4, .int r10), (0, .ref (ad 16)), (1, .int p1), (3, .int x6)]) hx hb dX5_unlike_81 rfl hl (by decide) rfl (fun ls hl => ?_)
                  obtain ⟨v15, ev15⟩ : ∃ y : Int32, y = x6 + 1 := ⟨_, rfl⟩
                  have hw := gq_at1 hw ev15
                  refine lv_iinc (v := v15) (lv' := [(3, .int v15), (2, .int r10), (4, .int r10), (0, .ref (ad 16)), (1, .int p1)]) hx hb dX5_unlike_82 hl (k := 4) rfl (by rw [ev15]; rfl) (by decide) rfl (fun ls hl => ?_)
                  refine lv_goto (tgt := 22) hx hb dX5_unlike_85 (by decide) ?_
                  exact ih r10 v15 _ _ hw hP hD hS ls (lv_sub hl [3, 4, 1, 0] rfl)
            · have hw := gq_f c9 hw
              refine lv_goto (tgt := 82) hx hb dX5_unlike_38 (by decide) ?_
              obtain ⟨v16, ev16⟩ : ∃ y : Int32, y = x6 + 1 := ⟨_, rfl⟩
              have hw := gq_at1 hw ev16
              refine lv_iinc (v := v16) (lv' := [(3, .int v16), (0, .ref (ad 16)), (1, .int p1), (2, .int x5)]) hx hb dX5_unlike_82 hl (k := 3) rfl (by rw [ev16]; rfl) (by decide) rfl (fun ls hl => ?_)
              refine lv_goto (tgt := 22) hx hb dX5_unlike_85 (by decide) ?_
              exact ih x5 v16 _ _ hw hP hD hS ls (lv_sub hl [1, 2, 3, 0] rfl)
      obtain ⟨n, hw⟩ := hw
      exact hL22 n (-1) 0 _ _ hw hP hD hS ls (lv_sub hl [2, 3, 1, 0] rfl)
    · have hw := gq_t c4 hw
      refine lv_iconst (v := (-1)) hx hb dX5_unlike_16 (by decide) ?_
      exact hz (-1) () _ _ _ _ dX5_unlike_17 hw hP hD hS

def wl_X5_touch_29 (p1 : Int32) (Mt : Nat → Int32) (Mn : Int32)   (post : Int32 → (Nat → Int32) → Int32 → Prop) : Nat → Int32 → Prop
  | 0, _ => False
  | n29 + 1, x6 => (if Mn ≤ x6 then vp_in Mn 6 ∧ gq_nm (upd Mt (Mn).toNatClampNeg p1) (fun Mt_8 : Nat → Int32 => gq_nm (Mn + 1) (fun v9 : Int32 => post 1 Mt_8 v9)) else vp_in x6 6 ∧ (if (Mt (x6).toNatClampNeg) = p1 then post 0 Mt Mn else gq_nm (x6 + 1) (fun v11 : Int32 => wl_X5_touch_29 p1 Mt Mn post n29 v11)))

def wp_X5_touch (p1 : Int32) (Mp : Int32) (Md : Int32) (Mt : Nat → Int32) (Mn : Int32) (post : Int32 → (Nat → Int32) → Int32 → Prop) : Prop :=
  wp_X5_isPlace p1 Mp (fun (r1 : Int32) => (if r1 = 0 then post 0 Mt Mn else wp_X5_isDecoy p1 Md (fun (r3 : Int32) => (if r3 = 0 then post 0 Mt Mn else (if Mn = 6 then post 0 Mt Mn else ∃ k29, wl_X5_touch_29 p1 Mt Mn post k29 0)))))

theorem iX5_touch_X5 : ∀ w ∈ wsX50, w ∈ wsX5_touch := by decide +kernel
set_option maxHeartbeats 4000000 in
set_option maxRecDepth 100000 in
theorem c_X5_touch (l : Launch) (D : va_G) (ad : Nat → Nat) (ck : Nat → ClassId) (sz : Nat) (Mp : Int32) (Mv : Int32) (Mb : Int32) (Me : Int32) (Md : Int32) (Mdo : Nat → Int32) (Mk : Nat → Int32) (Mm : Nat → Int32) (Mta : Nat → Int32) (Mkn : Nat → Int32) (Mti : Nat → Int32) (Mrl : Nat → Int32) (Mrr : Nat → Int32) (Mt : Nat → Int32) (Mn : Int32) (Mw : Nat → Int32) (Mwl : Nat → Int32) (Mws : Nat → Int32) (Mf : Int32) (Mpa : Nat → Int32) (Mne : Nat → Int32) (p1 : Int32) (post : Int32 → (Nat → Int32) → Int32 → Prop) (hw : wp_X5_touch p1 Mp Md Mt Mn post) : Met l yX5_touch wsX5_touch { frames := 2, cells := 0, slots := 0, locals := 43 } (va_Pc [.ref (ad 16), .int p1] (gq_pre D (tyM ck) (wdM ad ck Mp Mv Mb Me Md Mdo Mk Mm Mta Mkn Mti Mrl Mrr Mt Mn Mw Mwl Mws Mf Mpa Mne) sz)) (va_Qi (fun (r : Int32) (u : (Nat → Int32) × Int32) => post r u.1 u.2) (gq_at D (va_A (wdM ad ck Mp Mv Mb Me Md Mdo Mk Mm Mta Mkn Mti Mrl Mrr Mt Mn Mw Mwl Mws Mf Mpa Mne) sz) (fun (u : (Nat → Int32) × Int32) => (wdM ad ck Mp Mv Mb Me Md Mdo Mk Mm Mta Mkn Mti Mrl Mrr u.1 u.2 Mw Mwl Mws Mf Mpa Mne))) (va_A (wdM ad ck Mp Mv Mb Me Md Mdo Mk Mm Mta Mkn Mti Mrl Mrr Mt Mn Mw Mwl Mws Mf Mpa Mne) sz)) 0 0 (va_A (wdM ad ck Mp Mv Mb Me Md Mdo Mk Mm Mta Mkn Mti Mrl Mrr Mt Mn Mw Mwl Mws Mf Mpa Mne) sz) := by
  refine gq_metz (cc := cX5_touch) (maxL := 3) (lv := [(0, .ref (ad 16)), (1, .int p1)]) (by decide) rfl (Nat.le_of_ble_eq_true rfl) rfl ?_
  intro p e s m below meth c A Q ls H locs hx hb hml hown hts hnw hA hK hP hD hS hl hz
  refine lv_aload_n hx hb dX5_touch_0 rfl (lv_at hl 0 rfl) ?_
  refine lv_iload_n hx hb dX5_touch_1 rfl (lv_at hl 1 rfl) ?_
  refine gq_calli (wsN := fun _ => (wdM ad ck Mp Mv Mb Me Md Mdo Mk Mm Mta Mkn Mti Mrl Mrr Mt Mn Mw Mwl Mws Mf Mpa Mne)) (va_runV (As := [.int p1]) (rest := []) ⟨hx, hb, hml, hown, hts⟩ (c_X5_isPlace l D ad ck H.size Mp Mv Mb Me Md Mdo Mk Mm Mta Mkn Mti Mrl Mrr Mt Mn Mw Mwl Mws Mf Mpa Mne p1 _ hw) (cwV 1 hts gX5_touch_X5_isPlace rfl rfl rfl (by decide +kernel) ⟨Nat.le_of_ble_eq_true rfl, Nat.le_of_ble_eq_true rfl⟩) (gq_preV hK [0, 1, 2, 3, 4, 5, 6, 7, 8, 9, 10, 11, 12, 13] rfl hP hD [0, 1, 2, 3, 4, 5, 6, 7, 8, 9, 10, 11, 12, 13, 14] rfl rfl hnw 5 0 rfl rfl) rfl rfl hl.1 rfl (lv_room (Nat.le_of_ble_eq_true rfl)) dX5_touch_2 ⟨Nat.zero_le _, Nat.zero_le _⟩) hP hD hS hA [0, 1, 2, 3, 4, 5, 6, 7, 8, 9, 10, 11, 12, 13, 14] [] rfl rfl rfl (by decide) [0, 1, 2, 3, 4, 5, 6, 7, 8, 9, 10, 11, 12, 13, 14] rfl (fun _ => rfl) (fun r1 _ H locs hw hP hD hS => ?_)
  refine lv_if_eq (tgt := 25) hx hb dX5_touch_5 (by decide) (fun c2 => ?_) (fun c2 => ?_)
  · have hw := gq_t c2 hw
    refine lv_iconst (v := 0) hx hb dX5_touch_25 (by decide) ?_
    exact hz 0 (Mt, Mn) _ _ _ _ dX5_touch_26 gq_zb0 hw hP hD hS
  · have hw := gq_f c2 hw
    refine lv_aload_n hx hb dX5_touch_8 rfl (lv_at hl 0 rfl) ?_
    refine lv_iload_n hx hb dX5_touch_9 rfl (lv_at hl 1 rfl) ?_
    refine gq_calli (wsN := fun _ => (wdM ad ck Mp Mv Mb Me Md Mdo Mk Mm Mta Mkn Mti Mrl Mrr Mt Mn Mw Mwl Mws Mf Mpa Mne)) (va_runV (As := [.int p1]) (rest := []) ⟨hx, hb, hml, hown, hts⟩ (c_X5_isDecoy l D ad ck H.size Mp Mv Mb Me Md Mdo Mk Mm Mta Mkn Mti Mrl Mrr Mt Mn Mw Mwl Mws Mf Mpa Mne p1 _ hw) (cwV 1 hts gX5_touch_X5_isDecoy rfl rfl rfl (by decide +kernel) ⟨Nat.le_of_ble_eq_true rfl, Nat.le_of_ble_eq_true rfl⟩) (gq_preV hK [0, 1, 2, 3, 4, 5, 6, 7, 8, 9, 10, 11, 12, 13] rfl hP hD [0, 1, 2, 3, 4, 5, 6, 7, 8, 9, 10, 11, 12, 13, 14] rfl rfl hnw 5 0 rfl rfl) rfl rfl hl.1 rfl (lv_room (Nat.le_of_ble_eq_true rfl)) dX5_touch_10 ⟨Nat.zero_le _, Nat.zero_le _⟩) hP hD hS hA [0, 1, 2, 3, 4, 5, 6, 7, 8, 9, 10, 11, 12, 13, 14] [] rfl rfl rfl (by decide) [0, 1, 2, 3, 4, 5, 6, 7, 8, 9, 10, 11, 12, 13, 14] rfl (fun _ => rfl) (fun r3 _ H locs hw hP hD hS => ?_)
    refine lv_if_eq (tgt := 25) hx hb dX5_touch_13 (by decide) (fun c4 => ?_) (fun c4 => ?_)
    · have hw := gq_t c4 hw
      refine lv_iconst (v := 0) hx hb dX5_touch_25 (by decide) ?_
      exact hz 0 (Mt, Mn) _ _ _ _ dX5_touch_26 gq_zb0 hw hP hD hS
    · have hw := gq_f c4 hw
      refine lv_aload_n hx hb dX5_touch_16 rfl (lv_at hl 0 rfl) ?_
      refine va_get (D := D) (ci := 5) (v := .int Mn) (C := RX5) (T := TX5) (N := 21) hx hb hts iX5_touch_X5 hown hK hP 0 rfl rfl 14 (by decide) (hts (.fieldLink RX5 73 "DecoyHouseModel" "told" "I") (by decide +kernel)) (fun _ h9 => h9) rfl dX5_touch_17 ?_
      refine lv_bipush (v := 6) hx hb dX5_touch_20 (by decide) ?_
      refine lv_icmp_ne (tgt := 27) hx hb dX5_touch_22 (by decide) (fun c5 => ?_) (fun c5 => ?_)
      · have hw := gq_f c5 hw
        refine lv_iconst (v := 0) hx hb dX5_touch_27 (by decide) ?_
        refine lv_istore_n (lv' := [(2, .int 0), (0, .ref (ad 16)), (1, .int p1)]) hx hb dX5_touch_28 rfl hl (by decide) rfl (fun ls hl => ?_)
        have hL29 : ∀ (n : Nat) (x6 : Int32) (H : Heap) (locs : List Loc), wl_X5_touch_29 p1 Mt Mn post n x6 → va_P D vwCl (wdM ad ck Mp Mv Mb Me Md Mdo Mk Mm Mta Mkn Mti Mrl Mrr Mt Mn Mw Mwl Mws Mf Mpa Mne) H → va_D A (wdM ad ck Mp Mv Mb Me Md Mdo Mk Mm Mta Mkn Mti Mrl Mrr Mt Mn Mw Mwl Mws Mf Mpa Mne) → va_S A s.heap H locs → ∀ ls : Array Slot, lv_has ls 3 [(0, .ref (ad 16)), (1, .int p1), (2, .int x6)] → W p l e { frames := 2, cells := 0, slots := 0, locals := 43 } s m ([.ref (ad 16), .int p1] : List Value).toArray below meth c H locs 0 0 Q (F0 m 29 ls []) := by
          intro n
          induction n with
          | zero =>
            intro x6 H locs hw
            exact hw.elim
          | succ n ih =>
            intro x6 H locs hw hP hD hS ls hl
            refine lv_iload_n hx hb dX5_touch_29 rfl (lv_at hl 2 rfl) ?_
            refine lv_aload_n hx hb dX5_touch_30 rfl (lv_at hl 0 rfl) ?_
            refine va_get (D := D) (ci := 5) (v := .int Mn) (C := RX5) (T := TX5) (N := 21) hx hb hts iX5_touch_X5 hown hK hP 0 rfl rfl 14 (by decide) (hts (.fieldLink RX5 73 "DecoyHouseModel" "told" "I") (by decide +kernel)) (fun _ h9 => h9) rfl dX5_touch_31 ?_
            refine lv_icmp_ge (tgt := 55) hx hb dX5_touch_34 (by decide) (fun c7 => ?_) (fun c7 => ?_)
            · have hw := gq_t c7 hw
              refine lv_aload_n hx hb dX5_touch_55 rfl (lv_at hl 0 rfl) ?_
              refine va_get (D := D) (ci := 5) (v := .ref (ad 25)) (C := RX5) (T := TX5) (N := 21) hx hb hts iX5_touch_X5 hown hK hP 0 rfl rfl 13 (by decide) (hts (.fieldLink RX5 45 "DecoyHouseModel" "tale" "[I") (by decide +kernel)) (fun _ h9 => h9) rfl dX5_touch_56 ?_
              refine lv_aload_n hx hb dX5_touch_59 rfl (lv_at hl 0 rfl) ?_
              refine va_get (D := D) (ci := 5) (v := .int Mn) (C := RX5) (T := TX5) (N := 21) hx hb hts iX5_touch_X5 hown hK hP 0 rfl rfl 14 (by decide) (hts (.fieldLink RX5 73 "DecoyHouseModel" "told" "I") (by decide +kernel)) (fun _ h9 => h9) rfl dX5_touch_60 ?_
              refine lv_iload_n hx hb dX5_touch_63 rfl (lv_at hl 1 rfl) ?_
              refine va_iast hx hb hK hP hD hS 9 8 rfl rfl hw.1 dX5_touch_64 (fun H locs hP hD hS => ?_)
              obtain ⟨Mt_8, eMt_8⟩ : ∃ y : Nat → Int32, y = upd Mt (Mn).toNatClampNeg p1 := ⟨_, rfl⟩
              have hw := gq_at1 hw.2 eMt_8
              have hP : va_P D vwCl (wdM ad ck Mp Mv Mb Me Md Mdo Mk Mm Mta Mkn Mti Mrl Mrr Mt_8 Mn Mw Mwl Mws Mf Mpa Mne) H := by rw [eMt_8]; exact hP
              have hD : va_D A (wdM ad ck Mp Mv Mb Me Md Mdo Mk Mm Mta Mkn Mti Mrl Mrr Mt_8 Mn Mw Mwl Mws Mf Mpa Mne) := by rw [eMt_8]; exact hD
              refine lv_aload_n hx hb dX5_touch_65 rfl (lv_at hl 0 rfl) ?_
              refine lv_dup hx hb dX5_touch_66 rfl ?_
              refine va_get (D := D) (ci := 5) (v := .int Mn) (C := RX5) (T := TX5) (N := 21) hx hb hts iX5_touch_X5 hown hK hP 0 rfl rfl 14 (by decide) (hts (.fieldLink RX5 73 "DecoyHouseModel" "told" "I") (by decide +kernel)) (fun _ h9 => h9) rfl dX5_touch_67 ?_
              refine lv_iconst (v := 1) hx hb dX5_touch_70 (by decide) ?_
              refine lv_iadd hx hb dX5_touch_71 ?_
              refine lv_topi (fun v9 ev9 => ?_)
              have hw := gq_at1 hw ev9
              refine va_put (D := D) (ci := 5) (v := .int v9) (ty := .int) (C := RX5) (T := TX5) (N := 21) hx hb hts iX5_touch_X5 tyX5 tyX5_ok nmX5 hown hK hP hD hS 0 rfl rfl 14 (by decide) (hts (.fieldLink RX5 73 "DecoyHouseModel" "told" "I") (by decide +kernel)) (fun _ h9 => h9) rfl (by decide +kernel) rfl rfl (Nat.le_of_ble_eq_true rfl) dX5_touch_72 (fun H locs hP hD hS => ?_)
              have hP : va_P D vwCl (wdM ad ck Mp Mv Mb Me Md Mdo Mk Mm Mta Mkn Mti Mrl Mrr Mt_8 v9 Mw Mwl Mws Mf Mpa Mne) H := hP
              have hD : va_D A (wdM ad ck Mp Mv Mb Me Md Mdo Mk Mm Mta Mkn Mti Mrl Mrr Mt_8 v9 Mw Mwl Mws Mf Mpa Mne) := hD
              refine lv_iconst (v := 1) hx hb dX5_touch_75 (by decide) ?_
              exact hz 1 (Mt_8, v9) _ _ _ _ dX5_touch_76 gq_zb1 hw hP hD hS
            · have hw := gq_f c7 hw
              refine lv_aload_n hx hb dX5_touch_37 rfl (lv_at hl 0 rfl) ?_
              refine va_get (D := D) (ci := 5) (v := .ref (ad 25)) (C := RX5) (T := TX5) (N := 21) hx hb hts iX5_touch_X5 hown hK hP 0 rfl rfl 13 (by decide) (hts (.fieldLink RX5 45 "DecoyHouseModel" "tale" "[I") (by decide +kernel)) (fun _ h9 => h9) rfl dX5_touch_38 ?_
              refine lv_iload_n hx hb dX5_touch_41 rfl (lv_at hl 2 rfl) ?_
              refine va_iald hx hb hK hP 9 8 rfl rfl hw.1 dX5_touch_42 ?_
              have hw := hw.2
              refine lv_iload_n hx hb dX5_touch_43 rfl (lv_at hl 1 rfl) ?_
              refine lv_icmp_ne (tgt := 49) hx hb dX5_touch_44 (by decide) (fun c10 => ?_) (fun c10 => ?_)
              · have hw := gq_f c10 hw
                obtain ⟨v11, ev11⟩ : ∃ y : Int32, y = x6 + 1 := ⟨_, rfl⟩
                have hw := gq_at1 hw ev11
                refine lv_iinc (v := v11) (lv' := [(2, .int v11), (0, .ref (ad 16)), (1, .int p1)]) hx hb dX5_touch_49 hl (k := 2) rfl (by rw [ev11]; rfl) (by decide) rfl (fun ls hl => ?_)
                refine lv_goto (tgt := 29) hx hb dX5_touch_52 (by decide) ?_
                exact ih v11 _ _ hw hP hD hS ls (lv_sub hl [1, 2, 0] rfl)
              · have hw := gq_t c10 hw
                refine lv_iconst (v := 0) hx hb dX5_touch_47 (by decide) ?_
                exact hz 0 (Mt, Mn) _ _ _ _ dX5_touch_48 gq_zb0 hw hP hD hS
        obtain ⟨n, hw⟩ := hw
        exact hL29 n 0 _ _ hw hP hD hS ls (lv_sub hl [1, 2, 0] rfl)
      · have hw := gq_t c5 hw
        refine lv_iconst (v := 0) hx hb dX5_touch_25 (by decide) ?_
        exact hz 0 (Mt, Mn) _ _ _ _ dX5_touch_26 gq_zb0 hw hP hD hS

def wl_X5_leftTo_4 (p1 : Int32) (Md : Int32) (Mt : Nat → Int32) (Mn : Int32) (Mw : Nat → Int32) (Mwl : Nat → Int32)   (post : Int32 → Prop) : Nat → Int32 → Int32 → Prop
  | 0, _, _ => False
  | n4 + 1, x1, x2 => vp_in p1 2000 ∧ (if (Mwl (p1).toNatClampNeg) ≤ x2 then (if x1 = Mn then vp_in p1 2000 ∧ post (Mwl (p1).toNatClampNeg) else post (-1)) else (if x1 = Mn then post x2 else vp_in ((6 * p1) + x2) 12000 ∧ gq_nm (Mw (((6 * p1) + x2)).toNatClampNeg) (fun v6 : Int32 => wp_X5_isDecoy v6 Md (fun (r7 : Int32) => (if r7 = 0 then gq_nm (x2 + 1) (fun v12 : Int32 => wl_X5_leftTo_4 p1 Md Mt Mn Mw Mwl post n4 x1 v12) else vp_in x1 6 ∧ (if (Mt (x1).toNatClampNeg) = v6 then gq_nm (x1 + 1) (fun v10 : Int32 => gq_nm (x2 + 1) (fun v11 : Int32 => wl_X5_leftTo_4 p1 Md Mt Mn Mw Mwl post n4 v10 v11)) else post (-1)))))))

def wp_X5_leftTo (p1 : Int32) (Md : Int32) (Mt : Nat → Int32) (Mn : Int32) (Mw : Nat → Int32) (Mwl : Nat → Int32) (post : Int32 → Prop) : Prop :=
  ∃ k4, wl_X5_leftTo_4 p1 Md Mt Mn Mw Mwl post k4 0 0

theorem iX5_leftTo_X5 : ∀ w ∈ wsX50, w ∈ wsX5_leftTo := by decide +kernel
set_option maxHeartbeats 4000000 in
set_option maxRecDepth 100000 in
theorem c_X5_leftTo (l : Launch) (D : va_G) (ad : Nat → Nat) (ck : Nat → ClassId) (sz : Nat) (Mp : Int32) (Mv : Int32) (Mb : Int32) (Me : Int32) (Md : Int32) (Mdo : Nat → Int32) (Mk : Nat → Int32) (Mm : Nat → Int32) (Mta : Nat → Int32) (Mkn : Nat → Int32) (Mti : Nat → Int32) (Mrl : Nat → Int32) (Mrr : Nat → Int32) (Mt : Nat → Int32) (Mn : Int32) (Mw : Nat → Int32) (Mwl : Nat → Int32) (Mws : Nat → Int32) (Mf : Int32) (Mpa : Nat → Int32) (Mne : Nat → Int32) (p1 : Int32) (post : Int32 → Prop) (hw : wp_X5_leftTo p1 Md Mt Mn Mw Mwl post) : Met l yX5_leftTo wsX5_leftTo { frames := 1, cells := 0, slots := 0, locals := 21 } (va_Pc [.ref (ad 16), .int p1] (gq_pre D (tyM ck) (wdM ad ck Mp Mv Mb Me Md Mdo Mk Mm Mta Mkn Mti Mrl Mrr Mt Mn Mw Mwl Mws Mf Mpa Mne) sz)) (va_Qi (fun (r : Int32) (_ : Unit) => post r ) (gq_at D (va_A (wdM ad ck Mp Mv Mb Me Md Mdo Mk Mm Mta Mkn Mti Mrl Mrr Mt Mn Mw Mwl Mws Mf Mpa Mne) sz) (fun (_ : Unit) => (wdM ad ck Mp Mv Mb Me Md Mdo Mk Mm Mta Mkn Mti Mrl Mrr Mt Mn Mw Mwl Mws Mf Mpa Mne))) (va_A (wdM ad ck Mp Mv Mb Me Md Mdo Mk Mm Mta Mkn Mti Mrl Mrr Mt Mn Mw Mwl Mws Mf Mpa Mne) sz)) 0 0 (va_A (wdM ad ck Mp Mv Mb Me Md Mdo Mk Mm Mta Mkn Mti Mrl Mrr Mt Mn Mw Mwl Mws Mf Mpa Mne) sz) := by
  refine gq_meti (cc := cX5_leftTo) (maxL := 5) (lv := [(0, .ref (ad 16)), (1, .int p1)]) (by decide) rfl (Nat.le_of_ble_eq_true rfl) rfl ?_
  intro p e s m below meth c A Q ls H locs hx hb hml hown hts hnw hA hK hP hD hS hl hz
  refine lv_iconst (v := 0) hx hb dX5_leftTo_0 (by decide) ?_
  refine lv_istore_n (lv' := [(2, .int 0), (0, .ref (ad 16)), (1, .int p1)]) hx hb dX5_leftTo_1 rfl hl (by decide) rfl (fun ls hl => ?_)
  refine lv_iconst (v := 0) hx hb dX5_leftTo_2 (by decide) ?_
  refine lv_istore_n (lv' := [(3, .int 0), (2, .int 0), (0, .ref (ad 16)), (1, .int p1)]) hx hb dX5_leftTo_3 rfl hl (by decide) rfl (fun ls hl => ?_)
  have hL4 : ∀ (n : Nat) (x1 : Int32) (x2 : Int32) (H : Heap) (locs : List Loc), wl_X5_leftTo_4 p1 Md Mt Mn Mw Mwl post n x1 x2 → va_P D vwCl (wdM ad ck Mp Mv Mb Me Md Mdo Mk Mm Mta Mkn Mti Mrl Mrr Mt Mn Mw Mwl Mws Mf Mpa Mne) H → va_D A (wdM ad ck Mp Mv Mb Me Md Mdo Mk Mm Mta Mkn Mti Mrl Mrr Mt Mn Mw Mwl Mws Mf Mpa Mne) → va_S A s.heap H locs → ∀ ls : Array Slot, lv_has ls 5 [(0, .ref (ad 16)), (1, .int p1), (2, .int x1), (3, .int x2)] → W p l e { frames := 1, cells := 0, slots := 0, locals := 21 } s m ([.ref (ad 16), .int p1] : List Value).toArray below meth c H locs 0 0 Q (F0 m 4 ls []) := by
    intro n
    induction n with
    | zero =>
      intro x1 x2 H locs hw
      exact hw.elim
    | succ n ih =>
      intro x1 x2 H locs hw hP hD hS ls hl
      refine lv_iload_n hx hb dX5_leftTo_4 rfl (lv_at hl 3 rfl) ?_
      refine lv_aload_n hx hb dX5_leftTo_5 rfl (lv_at hl 0 rfl) ?_
      refine va_get (D := D) (ci := 5) (v := .ref (ad 27)) (C := RX5) (T := TX5) (N := 21) hx hb hts iX5_leftTo_X5 hown hK hP 0 rfl rfl 16 (by decide) (hts (.fieldLink RX5 51 "DecoyHouseModel" "wayLong" "[I") (by decide +kernel)) (fun _ h9 => h9) rfl dX5_leftTo_6 ?_
      refine lv_iload_n hx hb dX5_leftTo_9 rfl (lv_at hl 1 rfl) ?_
      refine va_iald hx hb hK hP 11 10 rfl rfl hw.1 dX5_leftTo_10 ?_
      have hw := hw.2
      refine lv_icmp_ge (tgt := 71) hx hb dX5_leftTo_11 (by decide) (fun c3 => ?_) (fun c3 => ?_)
      · have hw := gq_t c3 hw
        refine lv_iload_n hx hb dX5_leftTo_71 rfl (lv_at hl 2 rfl) ?_
        refine lv_aload_n hx hb dX5_leftTo_72 rfl (lv_at hl 0 rfl) ?_
        refine va_get (D := D) (ci := 5) (v := .int Mn) (C := RX5) (T := TX5) (N := 21) hx hb hts iX5_leftTo_X5 hown hK hP 0 rfl rfl 14 (by decide) (hts (.fieldLink RX5 73 "DecoyHouseModel" "told" "I") (by decide +kernel)) (fun _ h9 => h9) rfl dX5_leftTo_73 ?_
        refine lv_icmp_ne (tgt := 88) hx hb dX5_leftTo_76 (by decide) (fun c4 => ?_) (fun c4 => ?_)
        · have hw := gq_f c4 hw
          refine lv_iconst (v := (-1)) hx hb dX5_leftTo_88 (by decide) ?_
          exact hz (-1) () _ _ _ _ dX5_leftTo_89 hw hP hD hS
        · have hw := gq_t c4 hw
          refine lv_aload_n hx hb dX5_leftTo_79 rfl (lv_at hl 0 rfl) ?_
          refine va_get (D := D) (ci := 5) (v := .ref (ad 27)) (C := RX5) (T := TX5) (N := 21) hx hb hts iX5_leftTo_X5 hown hK hP 0 rfl rfl 16 (by decide) (hts (.fieldLink RX5 51 "DecoyHouseModel" "wayLong" "[I") (by decide +kernel)) (fun _ h9 => h9) rfl dX5_leftTo_80 ?_
          refine lv_iload_n hx hb dX5_leftTo_83 rfl (lv_at hl 1 rfl) ?_
          refine va_iald hx hb hK hP 11 10 rfl rfl hw.1 dX5_leftTo_84 ?_
          have hw := hw.2
          refine lv_goto (tgt := 89) hx hb dX5_leftTo_85 (by decide) ?_
          exact hz (Mwl (p1).toNatClampNeg) () _ _ _ _ dX5_leftTo_89 hw hP hD hS
      · have hw := gq_f c3 hw
        refine lv_iload_n hx hb dX5_leftTo_14 rfl (lv_at hl 2 rfl) ?_
        refine lv_aload_n hx hb dX5_leftTo_15 rfl (lv_at hl 0 rfl) ?_
        refine va_get (D := D) (ci := 5) (v := .int Mn) (C := RX5) (T := TX5) (N := 21) hx hb hts iX5_leftTo_X5 hown hK hP 0 rfl rfl 14 (by decide) (hts (.fieldLink RX5 73 "DecoyHouseModel" "told" "I") (by decide +kernel)) (fun _ h9 => h9) rfl dX5_leftTo_16 ?_
        refine lv_icmp_ne (tgt := 24) hx hb dX5_leftTo_19 (by decide) (fun c5 => ?_) (fun c5 => ?_)
        · have hw := gq_f c5 hw
          refine lv_aload_n hx hb dX5_leftTo_24 rfl (lv_at hl 0 rfl) ?_
          refine va_get (D := D) (ci := 5) (v := .ref (ad 26)) (C := RX5) (T := TX5) (N := 21) hx hb hts iX5_leftTo_X5 hown hK hP 0 rfl rfl 15 (by decide) (hts (.fieldLink RX5 48 "DecoyHouseModel" "way" "[I") (by decide +kernel)) (fun _ h9 => h9) rfl dX5_leftTo_25 ?_
          refine lv_bipush (v := 6) hx hb dX5_leftTo_28 (by decide) ?_
          refine lv_iload_n hx hb dX5_leftTo_30 rfl (lv_at hl 1 rfl) ?_
          refine lv_imul hx hb dX5_leftTo_31 ?_
          refine lv_iload_n hx hb dX5_leftTo_32 rfl (lv_at hl 3 rfl) ?_
          refine lv_iadd hx hb dX5_leftTo_33 ?_
          refine va_iald hx hb hK hP 10 9 rfl rfl hw.1 dX5_leftTo_34 ?_
          have hw := hw.2
          refine lv_topi (fun v6 ev6 => ?_)
          have hw := gq_at1 hw ev6
          refine lv_istore (lv' := [(4, .int v6), (0, .ref (ad 16)), (1, .int p1), (2, .int x1), (3, .int x2)]) hx hb dX5_leftTo_35 hl (by decide) rfl (fun ls hl => ?_)
          refine lv_aload_n hx hb dX5_leftTo_37 rfl (lv_at hl 1 rfl) ?_
          refine lv_iload hx hb dX5_leftTo_38 (lv_at hl 0 rfl) ?_
          refine gq_calli (wsN := fun _ => (wdM ad ck Mp Mv Mb Me Md Mdo Mk Mm Mta Mkn Mti Mrl Mrr Mt Mn Mw Mwl Mws Mf Mpa Mne)) (va_runV (As := [.int v6]) (rest := []) ⟨hx, hb, hml, hown, hts⟩ (c_X5_isDecoy l D ad ck H.size Mp Mv Mb Me Md Mdo Mk Mm Mta Mkn Mti Mrl Mrr Mt Mn Mw Mwl Mws Mf Mpa Mne v6 _ hw) (cwV 1 hts gX5_leftTo_X5_isDecoy rfl rfl rfl (by decide +kernel) ⟨Nat.le_of_ble_eq_true rfl, Nat.le_of_ble_eq_true rfl⟩) (gq_preV hK [0, 1, 2, 3, 4, 5, 6, 7, 8, 9, 10, 11, 12, 13] rfl hP hD [0, 1, 2, 3, 4, 5, 6, 7, 8, 9, 10, 11, 12, 13, 14] rfl rfl hnw 5 0 rfl rfl) rfl rfl hl.1 rfl (lv_room (Nat.le_of_ble_eq_true rfl)) dX5_leftTo_40 ⟨Nat.zero_le _, Nat.zero_le _⟩) hP hD hS hA [0, 1, 2, 3, 4, 5, 6, 7, 8, 9, 10, 11, 12, 13, 14] [] rfl rfl rfl (by decide) [0, 1, 2, 3, 4, 5, 6, 7, 8, 9, 10, 11, 12, 13, 14] rfl (fun _ => rfl) (fun r7 _ H locs hw hP hD hS => ?_)
          refine lv_if_ne (tgt := 49) hx hb dX5_leftTo_43 (by decide) (fun c8 => ?_) (fun c8 => ?_)
          · have hw := gq_f c8 hw
            refine lv_aload_n hx hb dX5_leftTo_49 rfl (lv_at hl 1 rfl) ?_
            refine va_get (D := D) (ci := 5) (v := .ref (ad 25)) (C := RX5) (T := TX5) (N := 21) hx hb hts iX5_leftTo_X5 hown hK hP 0 rfl rfl 13 (by decide) (hts (.fieldLink RX5 45 "DecoyHouseModel" "tale" "[I") (by decide +kernel)) (fun _ h9 => h9) rfl dX5_leftTo_50 ?_
            refine lv_iload_n hx hb dX5_leftTo_53 rfl (lv_at hl 3 rfl) ?_
            refine va_iald hx hb hK hP 9 8 rfl rfl hw.1 dX5_leftTo_54 ?_
            have hw := hw.2
            refine lv_iload hx hb dX5_leftTo_55 (lv_at hl 0 rfl) ?_
            refine lv_icmp_eq (tgt := 62) hx hb dX5_leftTo_57 (by decide) (fun c9 => ?_) (fun c9 => ?_)
            · have hw := gq_t c9 hw
              obtain ⟨v10, ev10⟩ : ∃ y : Int32, y = x1 + 1 := ⟨_, rfl⟩
              have hw := gq_at1 hw ev10
              refine lv_iinc (v := v10) (lv' := [(2, .int v10), (4, .int v6), (0, .ref (ad 16)), (1, .int p1), (3, .int x2)]) hx hb dX5_leftTo_62 hl (k := 3) rfl (by rw [ev10]; rfl) (by decide) rfl (fun ls hl => ?_)
              obtain ⟨v11, ev11⟩ : ∃ y : Int32, y = x2 + 1 := ⟨_, rfl⟩
              have hw := gq_at1 hw ev11
              refine lv_iinc (v := v11) (lv' := [(3, .int v11), (2, .int v10), (4, .int v6), (0, .ref (ad 16)), (1, .int p1)]) hx hb dX5_leftTo_65 hl (k := 4) rfl (by rw [ev11]; rfl) (by decide) rfl (fun ls hl => ?_)
              refine lv_goto (tgt := 4) hx hb dX5_leftTo_68 (by decide) ?_
              exact ih v10 v11 _ _ hw hP hD hS ls (lv_sub hl [3, 4, 1, 0] rfl)
            · have hw := gq_f c9 hw
              refine lv_iconst (v := (-1)) hx hb dX5_leftTo_60 (by decide) ?_
              exact hz (-1) () _ _ _ _ dX5_leftTo_61 hw hP hD hS
          · have hw := gq_t c8 hw
            refine lv_goto (tgt := 65) hx hb dX5_leftTo_46 (by decide) ?_
            obtain ⟨v12, ev12⟩ : ∃ y : Int32, y = x2 + 1 := ⟨_, rfl⟩
            have hw := gq_at1 hw ev12
            refine lv_iinc (v := v12) (lv' := [(3, .int v12), (4, .int v6), (0, .ref (ad 16)), (1, .int p1), (2, .int x1)]) hx hb dX5_leftTo_65 hl (k := 4) rfl (by rw [ev12]; rfl) (by decide) rfl (fun ls hl => ?_)
            refine lv_goto (tgt := 4) hx hb dX5_leftTo_68 (by decide) ?_
            exact ih x1 v12 _ _ hw hP hD hS ls (lv_sub hl [2, 3, 4, 0] rfl)
        · have hw := gq_t c5 hw
          refine lv_iload_n hx hb dX5_leftTo_22 rfl (lv_at hl 3 rfl) ?_
          exact hz x2 () _ _ _ _ dX5_leftTo_23 hw hP hD hS
  obtain ⟨n, hw⟩ := hw
  exact hL4 n 0 0 _ _ hw hP hD hS ls (lv_sub hl [2, 3, 1, 0] rfl)

