def wp_X1_clear  (Rt : Nat → Int32) (Rl : Nat → Int32) (Rr : Nat → Int32) (Ra : Nat → Int32) (post : (Nat → Int32) → (Nat → Int32) → (Nat → Int32) → (Nat → Int32) → Prop) : Prop :=
  gq_nm (gq_fill 6 Rt 0) (fun Rt_1 : Nat → Int32 => gq_nm (gq_fill 6 Rl 0) (fun Rl_3 : Nat → Int32 => gq_nm (gq_fill 6 Rr 0) (fun Rr_5 : Nat → Int32 => gq_nm (gq_fill 9 Ra 0) (fun Ra_7 : Nat → Int32 => post Rt_1 Rl_3 Rr_5 Ra_7))))

theorem iX1_clear_X1 : ∀ w ∈ wsX10, w ∈ wsX1_clear := by decide +kernel
set_option maxHeartbeats 4000000 in
set_option maxRecDepth 100000 in
theorem c_X1_clear (l : Launch) (D : va_G) (ad : Nat → Nat) (ck : Nat → ClassId) (sz : Nat) (Rt : Nat → Int32) (Rl : Nat → Int32) (Rr : Nat → Int32) (Ra : Nat → Int32)  (post : (Nat → Int32) → (Nat → Int32) → (Nat → Int32) → (Nat → Int32) → Prop) (hw : wp_X1_clear Rt Rl Rr Ra post) : Met l yX1_clear wsX1_clear { frames := 1, cells := 0, slots := 0, locals := 23 } (va_Pc [.ref (ad 7)] (gq_pre D (tyR ck) (wdR ad ck Rt Rl Rr Ra) sz)) (va_Qv (fun (u : (Nat → Int32) × (Nat → Int32) × (Nat → Int32) × (Nat → Int32)) => post u.1 u.2.1 u.2.2.1 u.2.2.2) (gq_at D (va_A (wdR ad ck Rt Rl Rr Ra) sz) (fun (u : (Nat → Int32) × (Nat → Int32) × (Nat → Int32) × (Nat → Int32)) => (wdR ad ck u.1 u.2.1 u.2.2.1 u.2.2.2))) (va_A (wdR ad ck Rt Rl Rr Ra) sz)) 0 0 (va_A (wdR ad ck Rt Rl Rr Ra) sz) := by
  refine gq_metv (cc := cX1_clear) (maxL := 1) (lv := [(0, .ref (ad 7))]) (by decide) rfl (Nat.le_of_ble_eq_true rfl) rfl ?_
  intro p e s m below meth c A Q ls H locs hx hb hml hown hts hnw hA hK hP hD hS hl hz
  refine lv_aload_n hx hb dX1_clear_0 rfl (lv_at hl 0 rfl) ?_
  refine va_get (D := D) (ci := 1) (v := .ref (ad 8)) (C := RX1) (T := TX1) (N := 4) hx hb hts iX1_clear_X1 hown hK hP 0 rfl rfl 0 (by decide) (hts (.fieldLink RX1 9 "DecoyHouse$Rounds" "timesOf" "[I") (by decide +kernel)) (fun _ h9 => h9) rfl dX1_clear_1 ?_
  refine lv_iconst (v := 0) hx hb dX1_clear_4 (by decide) ?_
  refine gq_callv (wsN := fun u => (wdR ad ck u Rl Rr Ra)) (va_runS (As := [.ref (ad 8), .int 0]) (rest := []) ⟨hx, hb, hml, hown, hts⟩ (c_J7_fill l D (ad 8) (ck 8) 6 H.size Rt 0 (by decide)) (va_cwS 2 hts gX1_clear_J7_fill_53178 rfl rfl rfl (by decide +kernel) ⟨Nat.le_of_ble_eq_true rfl, Nat.le_of_ble_eq_true rfl⟩) (gq_preS hK [0] rfl hP hD [1] rfl rfl hnw) rfl rfl hl.1 rfl (lv_room (Nat.le_of_ble_eq_true rfl)) dX1_clear_5 ⟨Nat.zero_le _, Nat.zero_le _⟩) hP hD hS hA [1] [0, 2, 3, 4] rfl rfl rfl (by decide) [0, 4, 1, 2, 3] rfl (fun _ => rfl) (fun Rt_1 H locs hf hP hD hS => ?_)
  have hw := gq_at1 hw hf
  have hP : va_P D vwCl (wdR ad ck Rt_1 Rl Rr Ra) H := hP
  have hD : va_D A (wdR ad ck Rt_1 Rl Rr Ra) := hD
  refine lv_aload_n hx hb dX1_clear_8 rfl (lv_at hl 0 rfl) ?_
  refine va_get (D := D) (ci := 1) (v := .ref (ad 9)) (C := RX1) (T := TX1) (N := 4) hx hb hts iX1_clear_X1 hown hK hP 0 rfl rfl 1 (by decide) (hts (.fieldLink RX1 15 "DecoyHouse$Rounds" "lengthOf" "[I") (by decide +kernel)) (fun _ h9 => h9) rfl dX1_clear_9 ?_
  refine lv_iconst (v := 0) hx hb dX1_clear_12 (by decide) ?_
  refine gq_callv (wsN := fun u => (wdR ad ck Rt_1 u Rr Ra)) (va_runS (As := [.ref (ad 9), .int 0]) (rest := []) ⟨hx, hb, hml, hown, hts⟩ (c_J7_fill l D (ad 9) (ck 9) 6 H.size Rl 0 (by decide)) (va_cwS 2 hts gX1_clear_J7_fill_53178 rfl rfl rfl (by decide +kernel) ⟨Nat.le_of_ble_eq_true rfl, Nat.le_of_ble_eq_true rfl⟩) (gq_preS hK [1] rfl hP hD [2] rfl rfl hnw) rfl rfl hl.1 rfl (lv_room (Nat.le_of_ble_eq_true rfl)) dX1_clear_13 ⟨Nat.zero_le _, Nat.zero_le _⟩) hP hD hS hA [2] [0, 1, 3, 4] rfl rfl rfl (by decide) [0, 1, 4, 2, 3] rfl (fun _ => rfl) (fun Rl_3 H locs hf hP hD hS => ?_)
  have hw := gq_at1 hw hf
  have hP : va_P D vwCl (wdR ad ck Rt_1 Rl_3 Rr Ra) H := hP
  have hD : va_D A (wdR ad ck Rt_1 Rl_3 Rr Ra) := hD
  refine lv_aload_n hx hb dX1_clear_16 rfl (lv_at hl 0 rfl) ?_
  refine va_get (D := D) (ci := 1) (v := .ref (ad 10)) (C := RX1) (T := TX1) (N := 4) hx hb hts iX1_clear_X1 hown hK hP 0 rfl rfl 2 (by decide) (hts (.fieldLink RX1 18 "DecoyHouse$Rounds" "rowOf" "[I") (by decide +kernel)) (fun _ h9 => h9) rfl dX1_clear_17 ?_
  refine lv_iconst (v := 0) hx hb dX1_clear_20 (by decide) ?_
  refine gq_callv (wsN := fun u => (wdR ad ck Rt_1 Rl_3 u Ra)) (va_runS (As := [.ref (ad 10), .int 0]) (rest := []) ⟨hx, hb, hml, hown, hts⟩ (c_J7_fill l D (ad 10) (ck 10) 6 H.size Rr 0 (by decide)) (va_cwS 2 hts gX1_clear_J7_fill_53178 rfl rfl rfl (by decide +kernel) ⟨Nat.le_of_ble_eq_true rfl, Nat.le_of_ble_eq_true rfl⟩) (gq_preS hK [2] rfl hP hD [3] rfl rfl hnw) rfl rfl hl.1 rfl (lv_room (Nat.le_of_ble_eq_true rfl)) dX1_clear_21 ⟨Nat.zero_le _, Nat.zero_le _⟩) hP hD hS hA [3] [0, 1, 2, 4] rfl rfl rfl (by decide) [0, 1, 2, 4, 3] rfl (fun _ => rfl) (fun Rr_5 H locs hf hP hD hS => ?_)
  have hw := gq_at1 hw hf
  have hP : va_P D vwCl (wdR ad ck Rt_1 Rl_3 Rr_5 Ra) H := hP
  have hD : va_D A (wdR ad ck Rt_1 Rl_3 Rr_5 Ra) := hD
  refine lv_aload_n hx hb dX1_clear_24 rfl (lv_at hl 0 rfl) ?_
  refine va_get (D := D) (ci := 1) (v := .ref (ad 11)) (C := RX1) (T := TX1) (N := 4) hx hb hts iX1_clear_X1 hown hK hP 0 rfl rfl 3 (by decide) (hts (.fieldLink RX1 21 "DecoyHouse$Rounds" "touchesAt" "[I") (by decide +kernel)) (fun _ h9 => h9) rfl dX1_clear_25 ?_
  refine lv_iconst (v := 0) hx hb dX1_clear_28 (by decide) ?_
  refine gq_callv (wsN := fun u => (wdR ad ck Rt_1 Rl_3 Rr_5 u)) (va_runS (As := [.ref (ad 11), .int 0]) (rest := []) ⟨hx, hb, hml, hown, hts⟩ (c_J7_fill l D (ad 11) (ck 11) 9 H.size Ra 0 (by decide)) (va_cwS 2 hts gX1_clear_J7_fill_53178 rfl rfl rfl (by decide +kernel) ⟨Nat.le_of_ble_eq_true rfl, Nat.le_of_ble_eq_true rfl⟩) (gq_preS hK [3] rfl hP hD [4] rfl rfl hnw) rfl rfl hl.1 rfl (lv_room (Nat.le_of_ble_eq_true rfl)) dX1_clear_29 ⟨Nat.zero_le _, Nat.zero_le _⟩) hP hD hS hA [4] [0, 1, 2, 3] rfl rfl rfl (by decide) [0, 1, 2, 3, 4] rfl (fun _ => rfl) (fun Ra_7 H locs hf hP hD hS => ?_)
  have hw := gq_at1 hw hf
  have hP : va_P D vwCl (wdR ad ck Rt_1 Rl_3 Rr_5 Ra_7) H := hP
  have hD : va_D A (wdR ad ck Rt_1 Rl_3 Rr_5 Ra_7) := hD
  exact hz (Rt_1, Rl_3, Rr_5, Ra_7) _ _ _ _ dX1_clear_32 hw hP hD hS

def wl_X1_addTouches_3 (p1 : Int32) (p2 : Int32) (p3 : Int32)   (post : (Nat → Int32) → Prop) : Nat → Int32 → (Nat → Int32) → Prop
  | 0, _, _ => False
  | n3 + 1, x1, Ra_2 => (if p2 ≤ x1 then post Ra_2 else (if 8 ≤ x1 then post Ra_2 else wp_X4_placeInRow p3 x1 (fun (r5 : Int32) => (if 9 ≤ r5 then gq_nm (x1 + 1) (fun v7 : Int32 => wl_X1_addTouches_3 p1 p2 p3 post n3 v7 Ra_2) else vp_in r5 9 ∧ vp_in r5 9 ∧ gq_nm (upd Ra_2 (r5).toNatClampNeg ((Ra_2 (r5).toNatClampNeg) + p1)) (fun Ra_8 : Nat → Int32 => gq_nm (x1 + 1) (fun v9 : Int32 => wl_X1_addTouches_3 p1 p2 p3 post n3 v9 Ra_8))))))

def wp_X1_addTouches (p1 : Int32) (p2 : Int32) (p3 : Int32) (Ra : Nat → Int32) (post : (Nat → Int32) → Prop) : Prop :=
  ∃ k3, wl_X1_addTouches_3 p1 p2 p3 post k3 0 Ra

theorem iX1_addTouches_X1 : ∀ w ∈ wsX10, w ∈ wsX1_addTouches := by decide +kernel
set_option maxHeartbeats 4000000 in
set_option maxRecDepth 100000 in
theorem c_X1_addTouches (l : Launch) (D : va_G) (ad : Nat → Nat) (ck : Nat → ClassId) (sz : Nat) (Rt : Nat → Int32) (Rl : Nat → Int32) (Rr : Nat → Int32) (Ra : Nat → Int32) (p1 : Int32) (p2 : Int32) (p3 : Int32) (post : (Nat → Int32) → Prop) (hw : wp_X1_addTouches p1 p2 p3 Ra post) : Met l yX1_addTouches wsX1_addTouches { frames := 1, cells := 0, slots := 0, locals := 21 } (va_Pc [.ref (ad 7), .int p1, .int p2, .int p3] (gq_pre D (tyR ck) (wdR ad ck Rt Rl Rr Ra) sz)) (va_Qv (fun (u : (Nat → Int32)) => post u) (gq_at D (va_A (wdR ad ck Rt Rl Rr Ra) sz) (fun (u : (Nat → Int32)) => (wdR ad ck Rt Rl Rr u))) (va_A (wdR ad ck Rt Rl Rr Ra) sz)) 0 0 (va_A (wdR ad ck Rt Rl Rr Ra) sz) := by
  refine gq_metv (cc := cX1_addTouches) (maxL := 6) (lv := [(0, .ref (ad 7)), (1, .int p1), (2, .int p2), (3, .int p3)]) (by decide) rfl (Nat.le_of_ble_eq_true rfl) rfl ?_
  intro p e s m below meth c A Q ls H locs hx hb hml hown hts hnw hA hK hP hD hS hl hz
  refine lv_iconst (v := 0) hx hb dX1_addTouches_0 (by decide) ?_
  refine lv_istore (lv' := [(4, .int 0), (0, .ref (ad 7)), (1, .int p1), (2, .int p2), (3, .int p3)]) hx hb dX1_addTouches_1 hl (by decide) rfl (fun ls hl => ?_)
  have hL3 : ∀ (n : Nat) (x1 : Int32) (Ra_2 : Nat → Int32) (H : Heap) (locs : List Loc), wl_X1_addTouches_3 p1 p2 p3 post n x1 Ra_2 → va_P D vwCl (wdR ad ck Rt Rl Rr Ra_2) H → va_D A (wdR ad ck Rt Rl Rr Ra_2) → va_S A s.heap H locs → ∀ ls : Array Slot, lv_has ls 6 [(0, .ref (ad 7)), (1, .int p1), (2, .int p2), (3, .int p3), (4, .int x1)] → W p l e { frames := 1, cells := 0, slots := 0, locals := 21 } s m ([.ref (ad 7), .int p1, .int p2, .int p3] : List Value).toArray below meth c H locs 0 0 Q (F0 m 3 ls []) := by
    intro n
    induction n with
    | zero =>
      intro x1 Ra_2 H locs hw
      exact hw.elim
    | succ n ih =>
      intro x1 Ra_2 H locs hw hP hD hS ls hl
      refine lv_iload hx hb dX1_addTouches_3 (lv_at hl 4 rfl) ?_
      refine lv_iload_n hx hb dX1_addTouches_5 rfl (lv_at hl 2 rfl) ?_
      refine lv_icmp_ge (tgt := 48) hx hb dX1_addTouches_6 (by decide) (fun c3 => ?_) (fun c3 => ?_)
      · have hw := gq_t c3 hw
        exact hz Ra_2 _ _ _ _ dX1_addTouches_48 hw hP hD hS
      · have hw := gq_f c3 hw
        refine lv_iload hx hb dX1_addTouches_9 (lv_at hl 4 rfl) ?_
        refine lv_bipush (v := 8) hx hb dX1_addTouches_11 (by decide) ?_
        refine lv_icmp_ge (tgt := 48) hx hb dX1_addTouches_13 (by decide) (fun c4 => ?_) (fun c4 => ?_)
        · have hw := gq_t c4 hw
          exact hz Ra_2 _ _ _ _ dX1_addTouches_48 hw hP hD hS
        · have hw := gq_f c4 hw
          refine lv_iload_n hx hb dX1_addTouches_16 rfl (lv_at hl 3 rfl) ?_
          refine lv_iload hx hb dX1_addTouches_17 (lv_at hl 4 rfl) ?_
          refine gq_calli (wsN := fun _ => (wdR ad ck Rt Rl Rr Ra_2)) (va_runSN (As := [.int p3, .int x1]) (rest := []) ⟨hx, hb, hml, hown, hts⟩ (c_X4_placeInRow l D H.size p3 x1 _ hw) ⟨va_cnB 2 hts gX1_addTouches_X4_placeInRow_n38 rfl rfl rfl (hnw _ (List.mem_of_getElem? (i := 6) rfl)) (hts (.initialized RX4) (by decide +kernel)) (by decide +kernel) ⟨Nat.le_of_ble_eq_true rfl, Nat.le_of_ble_eq_true rfl⟩, hts (.static yX4_placeInRow) (by decide +kernel), trivial⟩ (gq_preS hK [] rfl hP hD [] rfl rfl hnw) rfl rfl hl.1 rfl (lv_room (Nat.le_of_ble_eq_true rfl)) dX1_addTouches_19 ⟨Nat.zero_le _, Nat.zero_le _⟩) hP hD hS hA [] [0, 1, 2, 3, 4] rfl rfl rfl (by decide) [0, 1, 2, 3, 4] rfl (fun _ => rfl) (fun r5 _ H locs hw hP hD hS => ?_)
          refine lv_istore (lv' := [(5, .int r5), (0, .ref (ad 7)), (1, .int p1), (2, .int p2), (3, .int p3), (4, .int x1)]) hx hb dX1_addTouches_22 hl (by decide) rfl (fun ls hl => ?_)
          refine lv_iload hx hb dX1_addTouches_24 (lv_at hl 0 rfl) ?_
          refine lv_bipush (v := 9) hx hb dX1_addTouches_26 (by decide) ?_
          refine lv_icmp_ge (tgt := 42) hx hb dX1_addTouches_28 (by decide) (fun c6 => ?_) (fun c6 => ?_)
          · have hw := gq_t c6 hw
            obtain ⟨v7, ev7⟩ : ∃ y : Int32, y = x1 + 1 := ⟨_, rfl⟩
            have hw := gq_at1 hw ev7
            refine lv_iinc (v := v7) (lv' := [(4, .int v7), (5, .int r5), (0, .ref (ad 7)), (1, .int p1), (2, .int p2), (3, .int p3)]) hx hb dX1_addTouches_42 hl (k := 5) rfl (by rw [ev7]; rfl) (by decide) rfl (fun ls hl => ?_)
            refine lv_goto (tgt := 3) hx hb dX1_addTouches_45 (by decide) ?_
            exact ih v7 Ra_2 _ _ hw hP hD hS ls (lv_sub hl [2, 3, 4, 5, 0] rfl)
          · have hw := gq_f c6 hw
            refine lv_aload_n hx hb dX1_addTouches_31 rfl (lv_at hl 1 rfl) ?_
            refine va_get (D := D) (ci := 1) (v := .ref (ad 11)) (C := RX1) (T := TX1) (N := 4) hx hb hts iX1_addTouches_X1 hown hK hP 0 rfl rfl 3 (by decide) (hts (.fieldLink RX1 21 "DecoyHouse$Rounds" "touchesAt" "[I") (by decide +kernel)) (fun _ h9 => h9) rfl dX1_addTouches_32 ?_
            refine lv_iload hx hb dX1_addTouches_35 (lv_at hl 0 rfl) ?_
            refine lv_dup2_11 hx hb dX1_addTouches_37 rfl rfl ?_
            refine va_iald hx hb hK hP 4 3 rfl rfl hw.1 dX1_addTouches_38 ?_
            have hw := hw.2
            refine lv_iload_n hx hb dX1_addTouches_39 rfl (lv_at hl 2 rfl) ?_
            refine lv_iadd hx hb dX1_addTouches_40 ?_
            refine va_iast hx hb hK hP hD hS 4 3 rfl rfl hw.1 dX1_addTouches_41 (fun H locs hP hD hS => ?_)
            obtain ⟨Ra_8, eRa_8⟩ : ∃ y : Nat → Int32, y = upd Ra_2 (r5).toNatClampNeg ((Ra_2 (r5).toNatClampNeg) + p1) := ⟨_, rfl⟩
            have hw := gq_at1 hw.2 eRa_8
            have hP : va_P D vwCl (wdR ad ck Rt Rl Rr Ra_8) H := by rw [eRa_8]; exact hP
            have hD : va_D A (wdR ad ck Rt Rl Rr Ra_8) := by rw [eRa_8]; exact hD
            obtain ⟨v9, ev9⟩ : ∃ y : Int32, y = x1 + 1 := ⟨_, rfl⟩
            have hw := gq_at1 hw ev9
            refine lv_iinc (v := v9) (lv' := [(4, .int v9), (5, .int r5), (0, .ref (ad 7)), (1, .int p1), (2, .int p2), (3, .int p3)]) hx hb dX1_addTouches_42 hl (k := 5) rfl (by rw [ev9]; rfl) (by decide) rfl (fun ls hl => ?_)
            refine lv_goto (tgt := 3) hx hb dX1_addTouches_45 (by decide) ?_
            exact ih v9 Ra_8 _ _ hw hP hD hS ls (lv_sub hl [2, 3, 4, 5, 0] rfl)
  obtain ⟨n, hw⟩ := hw
  exact hL3 n 0 Ra _ _ hw hP hD hS ls (lv_sub hl [1, 2, 3, 4, 0] rfl)

def wp_X1_replace (p1 : Int32) (p2 : Int32) (p3 : Int32) (p4 : Int32) (Rt : Nat → Int32) (Rl : Nat → Int32) (Rr : Nat → Int32) (Ra : Nat → Int32) (post : (Nat → Int32) → (Nat → Int32) → (Nat → Int32) → (Nat → Int32) → Prop) : Prop :=
  (if p1 < 0 then post Rt Rl Rr Ra else (if p1 < 6 then vp_in p1 6 ∧ vp_in p1 6 ∧ vp_in p1 6 ∧ wp_X1_addTouches (-(Rt (p1).toNatClampNeg)) (Rl (p1).toNatClampNeg) (Rr (p1).toNatClampNeg) Ra (fun (Ra_3 : Nat → Int32) => vp_in p1 6 ∧ gq_nm (upd Rt (p1).toNatClampNeg p2) (fun Rt_4 : Nat → Int32 => vp_in p1 6 ∧ gq_nm (upd Rl (p1).toNatClampNeg p3) (fun Rl_5 : Nat → Int32 => vp_in p1 6 ∧ gq_nm (upd Rr (p1).toNatClampNeg p4) (fun Rr_6 : Nat → Int32 => wp_X1_addTouches p2 p3 p4 Ra_3 (fun (Ra_7 : Nat → Int32) => post Rt_4 Rl_5 Rr_6 Ra_7))))) else post Rt Rl Rr Ra))

theorem iX1_replace_X1 : ∀ w ∈ wsX10, w ∈ wsX1_replace := by decide +kernel
set_option maxHeartbeats 4000000 in
set_option maxRecDepth 100000 in
theorem c_X1_replace (l : Launch) (D : va_G) (ad : Nat → Nat) (ck : Nat → ClassId) (sz : Nat) (Rt : Nat → Int32) (Rl : Nat → Int32) (Rr : Nat → Int32) (Ra : Nat → Int32) (p1 : Int32) (p2 : Int32) (p3 : Int32) (p4 : Int32) (post : (Nat → Int32) → (Nat → Int32) → (Nat → Int32) → (Nat → Int32) → Prop) (hw : wp_X1_replace p1 p2 p3 p4 Rt Rl Rr Ra post) : Met l yX1_replace wsX1_replace { frames := 2, cells := 0, slots := 0, locals := 46 } (va_Pc [.ref (ad 7), .int p1, .int p2, .int p3, .int p4] (gq_pre D (tyR ck) (wdR ad ck Rt Rl Rr Ra) sz)) (va_Qv (fun (u : (Nat → Int32) × (Nat → Int32) × (Nat → Int32) × (Nat → Int32)) => post u.1 u.2.1 u.2.2.1 u.2.2.2) (gq_at D (va_A (wdR ad ck Rt Rl Rr Ra) sz) (fun (u : (Nat → Int32) × (Nat → Int32) × (Nat → Int32) × (Nat → Int32)) => (wdR ad ck u.1 u.2.1 u.2.2.1 u.2.2.2))) (va_A (wdR ad ck Rt Rl Rr Ra) sz)) 0 0 (va_A (wdR ad ck Rt Rl Rr Ra) sz) := by
  refine gq_metv (cc := cX1_replace) (maxL := 5) (lv := [(0, .ref (ad 7)), (1, .int p1), (2, .int p2), (3, .int p3), (4, .int p4)]) (by decide) rfl (Nat.le_of_ble_eq_true rfl) rfl ?_
  intro p e s m below meth c A Q ls H locs hx hb hml hown hts hnw hA hK hP hD hS hl hz
  refine lv_iload_n hx hb dX1_replace_0 rfl (lv_at hl 1 rfl) ?_
  refine lv_if_lt (tgt := 10) hx hb dX1_replace_1 (by decide) (fun c1 => ?_) (fun c1 => ?_)
  · have hw := gq_t c1 hw
    exact hz (Rt, Rl, Rr, Ra) _ _ _ _ dX1_replace_10 hw hP hD hS
  · have hw := gq_f c1 hw
    refine lv_iload_n hx hb dX1_replace_4 rfl (lv_at hl 1 rfl) ?_
    refine lv_bipush (v := 6) hx hb dX1_replace_5 (by decide) ?_
    refine lv_icmp_lt (tgt := 11) hx hb dX1_replace_7 (by decide) (fun c2 => ?_) (fun c2 => ?_)
    · have hw := gq_t c2 hw
      refine lv_aload_n hx hb dX1_replace_11 rfl (lv_at hl 0 rfl) ?_
      refine lv_aload_n hx hb dX1_replace_12 rfl (lv_at hl 0 rfl) ?_
      refine va_get (D := D) (ci := 1) (v := .ref (ad 8)) (C := RX1) (T := TX1) (N := 4) hx hb hts iX1_replace_X1 hown hK hP 0 rfl rfl 0 (by decide) (hts (.fieldLink RX1 9 "DecoyHouse$Rounds" "timesOf" "[I") (by decide +kernel)) (fun _ h9 => h9) rfl dX1_replace_13 ?_
      refine lv_iload_n hx hb dX1_replace_16 rfl (lv_at hl 1 rfl) ?_
      refine va_iald hx hb hK hP 1 0 rfl rfl hw.1 dX1_replace_17 ?_
      have hw := hw.2
      refine lv_ineg hx hb dX1_replace_18 ?_
      refine lv_aload_n hx hb dX1_replace_19 rfl (lv_at hl 0 rfl) ?_
      refine va_get (D := D) (ci := 1) (v := .ref (ad 9)) (C := RX1) (T := TX1) (N := 4) hx hb hts iX1_replace_X1 hown hK hP 0 rfl rfl 1 (by decide) (hts (.fieldLink RX1 15 "DecoyHouse$Rounds" "lengthOf" "[I") (by decide +kernel)) (fun _ h9 => h9) rfl dX1_replace_20 ?_
      refine lv_iload_n hx hb dX1_replace_23 rfl (lv_at hl 1 rfl) ?_
      refine va_iald hx hb hK hP 2 1 rfl rfl hw.1 dX1_replace_24 ?_
      have hw := hw.2
      refine lv_aload_n hx hb dX1_replace_25 rfl (lv_at hl 0 rfl) ?_
      refine va_get (D := D) (ci := 1) (v := .ref (ad 10)) (C := RX1) (T := TX1) (N := 4) hx hb hts iX1_replace_X1 hown hK hP 0 rfl rfl 2 (by decide) (hts (.fieldLink RX1 18 "DecoyHouse$Rounds" "rowOf" "[I") (by decide +kernel)) (fun _ h9 => h9) rfl dX1_replace_26 ?_
      refine lv_iload_n hx hb dX1_replace_29 rfl (lv_at hl 1 rfl) ?_
      refine va_iald hx hb hK hP 3 2 rfl rfl hw.1 dX1_replace_30 ?_
      have hw := hw.2
      refine gq_callv (wsN := fun u => (wdR ad ck Rt Rl Rr u)) (va_runV (As := [.int (-(Rt (p1).toNatClampNeg)), .int (Rl (p1).toNatClampNeg), .int (Rr (p1).toNatClampNeg)]) (rest := []) ⟨hx, hb, hml, hown, hts⟩ (c_X1_addTouches l D ad ck H.size Rt Rl Rr Ra (-(Rt (p1).toNatClampNeg)) (Rl (p1).toNatClampNeg) (Rr (p1).toNatClampNeg) _ hw) (cwV 3 hts gX1_replace_X1_addTouches rfl rfl rfl (by decide +kernel) ⟨Nat.le_of_ble_eq_true rfl, Nat.le_of_ble_eq_true rfl⟩) (gq_preV hK [0, 1, 2, 3] rfl hP hD [0, 1, 2, 3, 4] rfl rfl hnw 1 0 rfl rfl) rfl rfl hl.1 rfl (lv_room (Nat.le_of_ble_eq_true rfl)) dX1_replace_31 ⟨Nat.zero_le _, Nat.zero_le _⟩) hP hD hS hA [0, 1, 2, 3, 4] [] rfl rfl rfl (by decide) [0, 1, 2, 3, 4] rfl (fun _ => rfl) (fun Ra_3 H locs hw hP hD hS => ?_)
      have hP : va_P D vwCl (wdR ad ck Rt Rl Rr Ra_3) H := hP
      have hD : va_D A (wdR ad ck Rt Rl Rr Ra_3) := hD
      refine lv_aload_n hx hb dX1_replace_34 rfl (lv_at hl 0 rfl) ?_
      refine va_get (D := D) (ci := 1) (v := .ref (ad 8)) (C := RX1) (T := TX1) (N := 4) hx hb hts iX1_replace_X1 hown hK hP 0 rfl rfl 0 (by decide) (hts (.fieldLink RX1 9 "DecoyHouse$Rounds" "timesOf" "[I") (by decide +kernel)) (fun _ h9 => h9) rfl dX1_replace_35 ?_
      refine lv_iload_n hx hb dX1_replace_38 rfl (lv_at hl 1 rfl) ?_
      refine lv_iload_n hx hb dX1_replace_39 rfl (lv_at hl 2 rfl) ?_
      refine va_iast hx hb hK hP hD hS 1 0 rfl rfl hw.1 dX1_replace_40 (fun H locs hP hD hS => ?_)
      obtain ⟨Rt_4, eRt_4⟩ : ∃ y : Nat → Int32, y = upd Rt (p1).toNatClampNeg p2 := ⟨_, rfl⟩
      have hw := gq_at1 hw.2 eRt_4
      have hP : va_P D vwCl (wdR ad ck Rt_4 Rl Rr Ra_3) H := by rw [eRt_4]; exact hP
      have hD : va_D A (wdR ad ck Rt_4 Rl Rr Ra_3) := by rw [eRt_4]; exact hD
      refine lv_aload_n hx hb dX1_replace_41 rfl (lv_at hl 0 rfl) ?_
      refine va_get (D := D) (ci := 1) (v := .ref (ad 9)) (C := RX1) (T := TX1) (N := 4) hx hb hts iX1_replace_X1 hown hK hP 0 rfl rfl 1 (by decide) (hts (.fieldLink RX1 15 "DecoyHouse$Rounds" "lengthOf" "[I") (by decide +kernel)) (fun _ h9 => h9) rfl dX1_replace_42 ?_
      refine lv_iload_n hx hb dX1_replace_45 rfl (lv_at hl 1 rfl) ?_
      refine lv_iload_n hx hb dX1_replace_46 rfl (lv_at hl 3 rfl) ?_
      refine va_iast hx hb hK hP hD hS 2 1 rfl rfl hw.1 dX1_replace_47 (fun H locs hP hD hS => ?_)
      obtain ⟨Rl_5, eRl_5⟩ : ∃ y : Nat → Int32, y = upd Rl (p1).toNatClampNeg p3 := ⟨_, rfl⟩
      have hw := gq_at1 hw.2 eRl_5
      have hP : va_P D vwCl (wdR ad ck Rt_4 Rl_5 Rr Ra_3) H := by rw [eRl_5]; exact hP
      have hD : va_D A (wdR ad ck Rt_4 Rl_5 Rr Ra_3) := by rw [eRl_5]; exact hD
      refine lv_aload_n hx hb dX1_replace_48 rfl (lv_at hl 0 rfl) ?_
      refine va_get (D := D) (ci := 1) (v := .ref (ad 10)) (C := RX1) (T := TX1) (N := 4) hx hb hts iX1_replace_X1 hown hK hP 0 rfl rfl 2 (by decide) (hts (.fieldLink RX1 18 "DecoyHouse$Rounds" "rowOf" "[I") (by decide +kernel)) (fun _ h9 => h9) rfl dX1_replace_49 ?_
      refine lv_iload_n hx hb dX1_replace_52 rfl (lv_at hl 1 rfl) ?_
      refine lv_iload hx hb dX1_replace_53 (lv_at hl 4 rfl) ?_
      refine va_iast hx hb hK hP hD hS 3 2 rfl rfl hw.1 dX1_replace_55 (fun H locs hP hD hS => ?_)
      obtain ⟨Rr_6, eRr_6⟩ : ∃ y : Nat → Int32, y = upd Rr (p1).toNatClampNeg p4 := ⟨_, rfl⟩
      have hw := gq_at1 hw.2 eRr_6
      have hP : va_P D vwCl (wdR ad ck Rt_4 Rl_5 Rr_6 Ra_3) H := by rw [eRr_6]; exact hP
      have hD : va_D A (wdR ad ck Rt_4 Rl_5 Rr_6 Ra_3) := by rw [eRr_6]; exact hD
      refine lv_aload_n hx hb dX1_replace_56 rfl (lv_at hl 0 rfl) ?_
      refine lv_iload_n hx hb dX1_replace_57 rfl (lv_at hl 2 rfl) ?_
      refine lv_iload_n hx hb dX1_replace_58 rfl (lv_at hl 3 rfl) ?_
      refine lv_iload hx hb dX1_replace_59 (lv_at hl 4 rfl) ?_
      refine gq_callv (wsN := fun u => (wdR ad ck Rt_4 Rl_5 Rr_6 u)) (va_runV (As := [.int p2, .int p3, .int p4]) (rest := []) ⟨hx, hb, hml, hown, hts⟩ (c_X1_addTouches l D ad ck H.size Rt_4 Rl_5 Rr_6 Ra_3 p2 p3 p4 _ hw) (cwV 3 hts gX1_replace_X1_addTouches rfl rfl rfl (by decide +kernel) ⟨Nat.le_of_ble_eq_true rfl, Nat.le_of_ble_eq_true rfl⟩) (gq_preV hK [0, 1, 2, 3] rfl hP hD [0, 1, 2, 3, 4] rfl rfl hnw 1 0 rfl rfl) rfl rfl hl.1 rfl (lv_room (Nat.le_of_ble_eq_true rfl)) dX1_replace_61 ⟨Nat.zero_le _, Nat.zero_le _⟩) hP hD hS hA [0, 1, 2, 3, 4] [] rfl rfl rfl (by decide) [0, 1, 2, 3, 4] rfl (fun _ => rfl) (fun Ra_7 H locs hw hP hD hS => ?_)
      have hP : va_P D vwCl (wdR ad ck Rt_4 Rl_5 Rr_6 Ra_7) H := hP
      have hD : va_D A (wdR ad ck Rt_4 Rl_5 Rr_6 Ra_7) := hD
      exact hz (Rt_4, Rl_5, Rr_6, Ra_7) _ _ _ _ dX1_replace_64 hw hP hD hS
    · have hw := gq_f c2 hw
      exact hz (Rt, Rl, Rr, Ra) _ _ _ _ dX1_replace_10 hw hP hD hS

def wl_X1_touchesOf_4 (p1 : Int32) (Ra : Nat → Int32)   (post : Int32 → Prop) : Nat → Int32 → Int32 → Prop
  | 0, _, _ => False
  | n4 + 1, x1, x2 => (if 9 ≤ x2 then post x1 else wp_X4_has p1 x2 (fun (r4 : Int32) => (if r4 = 0 then gq_nm (x2 + 1) (fun v6 : Int32 => wl_X1_touchesOf_4 p1 Ra post n4 x1 v6) else vp_in x2 9 ∧ gq_nm (x1 + (Ra (x2).toNatClampNeg)) (fun v7 : Int32 => gq_nm (x2 + 1) (fun v8 : Int32 => wl_X1_touchesOf_4 p1 Ra post n4 v7 v8)))))

def wp_X1_touchesOf (p1 : Int32) (Ra : Nat → Int32) (post : Int32 → Prop) : Prop :=
  ∃ k4, wl_X1_touchesOf_4 p1 Ra post k4 0 0

theorem iX1_touchesOf_X1 : ∀ w ∈ wsX10, w ∈ wsX1_touchesOf := by decide +kernel
set_option maxHeartbeats 4000000 in
set_option maxRecDepth 100000 in
theorem c_X1_touchesOf (l : Launch) (D : va_G) (ad : Nat → Nat) (ck : Nat → ClassId) (sz : Nat) (Rt : Nat → Int32) (Rl : Nat → Int32) (Rr : Nat → Int32) (Ra : Nat → Int32) (p1 : Int32) (post : Int32 → Prop) (hw : wp_X1_touchesOf p1 Ra post) : Met l yX1_touchesOf wsX1_touchesOf { frames := 1, cells := 0, slots := 0, locals := 21 } (va_Pc [.ref (ad 7), .int p1] (gq_pre D (tyR ck) (wdR ad ck Rt Rl Rr Ra) sz)) (va_Qi (fun (r : Int32) (_ : Unit) => post r ) (gq_at D (va_A (wdR ad ck Rt Rl Rr Ra) sz) (fun (_ : Unit) => (wdR ad ck Rt Rl Rr Ra))) (va_A (wdR ad ck Rt Rl Rr Ra) sz)) 0 0 (va_A (wdR ad ck Rt Rl Rr Ra) sz) := by
  refine gq_meti (cc := cX1_touchesOf) (maxL := 4) (lv := [(0, .ref (ad 7)), (1, .int p1)]) (by decide) rfl (Nat.le_of_ble_eq_true rfl) rfl ?_
  intro p e s m below meth c A Q ls H locs hx hb hml hown hts hnw hA hK hP hD hS hl hz
  refine lv_iconst (v := 0) hx hb dX1_touchesOf_0 (by decide) ?_
  refine lv_istore_n (lv' := [(2, .int 0), (0, .ref (ad 7)), (1, .int p1)]) hx hb dX1_touchesOf_1 rfl hl (by decide) rfl (fun ls hl => ?_)
  refine lv_iconst (v := 0) hx hb dX1_touchesOf_2 (by decide) ?_
  refine lv_istore_n (lv' := [(3, .int 0), (2, .int 0), (0, .ref (ad 7)), (1, .int p1)]) hx hb dX1_touchesOf_3 rfl hl (by decide) rfl (fun ls hl => ?_)
  have hL4 : ∀ (n : Nat) (x1 : Int32) (x2 : Int32) (H : Heap) (locs : List Loc), wl_X1_touchesOf_4 p1 Ra post n x1 x2 → va_P D vwCl (wdR ad ck Rt Rl Rr Ra) H → va_D A (wdR ad ck Rt Rl Rr Ra) → va_S A s.heap H locs → ∀ ls : Array Slot, lv_has ls 4 [(0, .ref (ad 7)), (1, .int p1), (2, .int x1), (3, .int x2)] → W p l e { frames := 1, cells := 0, slots := 0, locals := 21 } s m ([.ref (ad 7), .int p1] : List Value).toArray below meth c H locs 0 0 Q (F0 m 4 ls []) := by
    intro n
    induction n with
    | zero =>
      intro x1 x2 H locs hw
      exact hw.elim
    | succ n ih =>
      intro x1 x2 H locs hw hP hD hS ls hl
      refine lv_iload_n hx hb dX1_touchesOf_4 rfl (lv_at hl 3 rfl) ?_
      refine lv_bipush (v := 9) hx hb dX1_touchesOf_5 (by decide) ?_
      refine lv_icmp_ge (tgt := 33) hx hb dX1_touchesOf_7 (by decide) (fun c3 => ?_) (fun c3 => ?_)
      · have hw := gq_t c3 hw
        refine lv_iload_n hx hb dX1_touchesOf_33 rfl (lv_at hl 2 rfl) ?_
        exact hz x1 () _ _ _ _ dX1_touchesOf_34 hw hP hD hS
      · have hw := gq_f c3 hw
        refine lv_iload_n hx hb dX1_touchesOf_10 rfl (lv_at hl 1 rfl) ?_
        refine lv_iload_n hx hb dX1_touchesOf_11 rfl (lv_at hl 3 rfl) ?_
        refine gq_calli (wsN := fun _ => (wdR ad ck Rt Rl Rr Ra)) (va_runSN (As := [.int p1, .int x2]) (rest := []) ⟨hx, hb, hml, hown, hts⟩ (c_X4_has l D H.size p1 x2 _ hw) ⟨va_cnB 2 hts gX1_touchesOf_X4_has_n34 rfl rfl rfl (hnw _ (List.mem_of_getElem? (i := 11) rfl)) (hts (.initialized RX4) (by decide +kernel)) (by decide +kernel) ⟨Nat.le_of_ble_eq_true rfl, Nat.le_of_ble_eq_true rfl⟩, hts (.static yX4_has) (by decide +kernel), trivial⟩ (gq_preS hK [] rfl hP hD [] rfl rfl hnw) rfl rfl hl.1 rfl (lv_room (Nat.le_of_ble_eq_true rfl)) dX1_touchesOf_12 ⟨Nat.zero_le _, Nat.zero_le _⟩) hP hD hS hA [] [0, 1, 2, 3, 4] rfl rfl rfl (by decide) [0, 1, 2, 3, 4] rfl (fun _ => rfl) (fun r4 _ H locs hw hP hD hS => ?_)
        refine lv_if_eq (tgt := 27) hx hb dX1_touchesOf_15 (by decide) (fun c5 => ?_) (fun c5 => ?_)
        · have hw := gq_t c5 hw
          obtain ⟨v6, ev6⟩ : ∃ y : Int32, y = x2 + 1 := ⟨_, rfl⟩
          have hw := gq_at1 hw ev6
          refine lv_iinc (v := v6) (lv' := [(3, .int v6), (0, .ref (ad 7)), (1, .int p1), (2, .int x1)]) hx hb dX1_touchesOf_27 hl (k := 3) rfl (by rw [ev6]; rfl) (by decide) rfl (fun ls hl => ?_)
          refine lv_goto (tgt := 4) hx hb dX1_touchesOf_30 (by decide) ?_
          exact ih x1 v6 _ _ hw hP hD hS ls (lv_sub hl [1, 2, 3, 0] rfl)
        · have hw := gq_f c5 hw
          refine lv_iload_n hx hb dX1_touchesOf_18 rfl (lv_at hl 2 rfl) ?_
          refine lv_aload_n hx hb dX1_touchesOf_19 rfl (lv_at hl 0 rfl) ?_
          refine va_get (D := D) (ci := 1) (v := .ref (ad 11)) (C := RX1) (T := TX1) (N := 4) hx hb hts iX1_touchesOf_X1 hown hK hP 0 rfl rfl 3 (by decide) (hts (.fieldLink RX1 21 "DecoyHouse$Rounds" "touchesAt" "[I") (by decide +kernel)) (fun _ h9 => h9) rfl dX1_touchesOf_20 ?_
          refine lv_iload_n hx hb dX1_touchesOf_23 rfl (lv_at hl 3 rfl) ?_
          refine va_iald hx hb hK hP 4 3 rfl rfl hw.1 dX1_touchesOf_24 ?_
          have hw := hw.2
          refine lv_iadd hx hb dX1_touchesOf_25 ?_
          refine lv_topi (fun v7 ev7 => ?_)
          have hw := gq_at1 hw ev7
          refine lv_istore_n (lv' := [(2, .int v7), (0, .ref (ad 7)), (1, .int p1), (3, .int x2)]) hx hb dX1_touchesOf_26 rfl hl (by decide) rfl (fun ls hl => ?_)
          obtain ⟨v8, ev8⟩ : ∃ y : Int32, y = x2 + 1 := ⟨_, rfl⟩
          have hw := gq_at1 hw ev8
          refine lv_iinc (v := v8) (lv' := [(3, .int v8), (2, .int v7), (0, .ref (ad 7)), (1, .int p1)]) hx hb dX1_touchesOf_27 hl (k := 3) rfl (by rw [ev8]; rfl) (by decide) rfl (fun ls hl => ?_)
          refine lv_goto (tgt := 4) hx hb dX1_touchesOf_30 (by decide) ?_
          exact ih v7 v8 _ _ hw hP hD hS ls (lv_sub hl [2, 3, 1, 0] rfl)
  obtain ⟨n, hw⟩ := hw
  exact hL4 n 0 0 _ _ hw hP hD hS ls (lv_sub hl [2, 3, 1, 0] rfl)

