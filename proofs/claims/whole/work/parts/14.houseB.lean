def wp_X4_layableSet  (Ps : Int32) (Pg : Int32) (Pj : Int32) (Wk : Nat → Int32) (We : Int32) (post : Int32 → Prop) : Prop :=
  wp_X0_plainSet Ps Pg Pj (fun (r1 : Int32) => wp_X2_knownSet Wk We (fun (r2 : Int32) => post (r1 &&& (r2 ^^^ (-1)))))

theorem iX4_layableSet_X4 : ∀ w ∈ wsX40, w ∈ wsX4_layableSet := by decide +kernel
set_option maxHeartbeats 4000000 in
set_option maxRecDepth 100000 in
theorem c_X4_layableSet (l : Launch) (D : va_G) (ad : Nat → Nat) (ck : Nat → ClassId) (sz : Nat) (Pd : Nat → Int32) (Pm : Nat → Int32) (Ps : Int32) (Pg : Int32) (Pj : Int32) (Bt : Nat → Int32) (Bi : Nat → Int32) (Bf : Int32) (Br : Int32) (Rt : Nat → Int32) (Rl : Nat → Int32) (Rr : Nat → Int32) (Ra : Nat → Int32) (Wt : Nat → Int32) (Wa : Nat → Int32) (Wk : Nat → Int32) (Wd : Int32) (Wn : Int32) (We : Int32) (Wb : Int32) (Hv : Int32)  (post : Int32 → Prop) (hw : wp_X4_layableSet Ps Pg Pj Wk We post) : Met l yX4_layableSet wsX4_layableSet { frames := 2, cells := 0, slots := 0, locals := 42 } (va_Pc [.ref (ad 0)] (gq_pre D (tyH ck) (wdH ad ck Pd Pm Ps Pg Pj Bt Bi Bf Br Rt Rl Rr Ra Wt Wa Wk Wd Wn We Wb Hv) sz)) (va_Qi (fun (r : Int32) (_ : Unit) => post r ) (gq_at D (va_A (wdH ad ck Pd Pm Ps Pg Pj Bt Bi Bf Br Rt Rl Rr Ra Wt Wa Wk Wd Wn We Wb Hv) sz) (fun (_ : Unit) => (wdH ad ck Pd Pm Ps Pg Pj Bt Bi Bf Br Rt Rl Rr Ra Wt Wa Wk Wd Wn We Wb Hv))) (va_A (wdH ad ck Pd Pm Ps Pg Pj Bt Bi Bf Br Rt Rl Rr Ra Wt Wa Wk Wd Wn We Wb Hv) sz)) 0 0 (va_A (wdH ad ck Pd Pm Ps Pg Pj Bt Bi Bf Br Rt Rl Rr Ra Wt Wa Wk Wd Wn We Wb Hv) sz) := by
  refine gq_meti (cc := cX4_layableSet) (maxL := 1) (lv := [(0, .ref (ad 0))]) (by decide) rfl (Nat.le_of_ble_eq_true rfl) rfl ?_
  intro p e s m below meth c A Q ls H locs hx hb hml hown hts hnw hA hK hP hD hS hl hz
  refine lv_aload_n hx hb dX4_layableSet_0 rfl (lv_at hl 0 rfl) ?_
  refine va_get (D := D) (ci := 4) (v := .ref (ad 1)) (C := RX4) (T := TX4) (N := 5) hx hb hts iX4_layableSet_X4 hown hK hP 0 rfl rfl 0 (by decide) (hts (.fieldLink RX4 12 "DecoyHouse" "plan" "LDecoyHouse$Plan;") (by decide +kernel)) (fun _ h9 => h9) rfl dX4_layableSet_1 ?_
  refine gq_calli (wsN := fun _ => (wdH ad ck Pd Pm Ps Pg Pj Bt Bi Bf Br Rt Rl Rr Ra Wt Wa Wk Wd Wn We Wb Hv)) (va_runV (As := []) (rest := []) ⟨hx, hb, hml, hown, hts⟩ (c_X0_plainSet l D ad ck H.size Pd Pm Ps Pg Pj  _ hw) (cwV 0 hts gX4_layableSet_X0_plainSet rfl rfl rfl (by decide +kernel) ⟨Nat.le_of_ble_eq_true rfl, Nat.le_of_ble_eq_true rfl⟩) (gq_preV hK [0, 1] rfl hP hD [1, 2, 3] rfl rfl hnw 0 0 rfl rfl) rfl rfl hl.1 rfl (lv_room (Nat.le_of_ble_eq_true rfl)) dX4_layableSet_4 ⟨Nat.zero_le _, Nat.zero_le _⟩) hP hD hS hA [1, 2, 3] [0, 4, 5, 6, 7, 8, 9, 10, 11, 12, 13, 14, 15] rfl rfl rfl (by decide) [0, 13, 14, 15, 1, 2, 3, 4, 5, 6, 7, 8, 9, 10, 11, 12] rfl (fun _ => rfl) (fun r1 _ H locs hw hP hD hS => ?_)
  refine lv_aload_n hx hb dX4_layableSet_7 rfl (lv_at hl 0 rfl) ?_
  refine va_get (D := D) (ci := 4) (v := .ref (ad 12)) (C := RX4) (T := TX4) (N := 5) hx hb hts iX4_layableSet_X4 hown hK hP 0 rfl rfl 3 (by decide) (hts (.fieldLink RX4 33 "DecoyHouse" "watch" "LDecoyHouse$Watch;") (by decide +kernel)) (fun _ h9 => h9) rfl dX4_layableSet_8 ?_
  refine gq_calli (wsN := fun _ => (wdH ad ck Pd Pm Ps Pg Pj Bt Bi Bf Br Rt Rl Rr Ra Wt Wa Wk Wd Wn We Wb Hv)) (va_runV (As := []) (rest := [.int r1]) ⟨hx, hb, hml, hown, hts⟩ (c_X2_knownSet l D ad ck H.size Wt Wa Wk Wd Wn We Wb  _ hw) (cwV 0 hts gX4_layableSet_X2_knownSet rfl rfl rfl (by decide +kernel) ⟨Nat.le_of_ble_eq_true rfl, Nat.le_of_ble_eq_true rfl⟩) (gq_preV hK [8, 9, 10] rfl hP hD [12, 13, 14, 15] rfl rfl hnw 2 0 rfl rfl) rfl rfl hl.1 rfl (lv_room (Nat.le_of_ble_eq_true rfl)) dX4_layableSet_11 ⟨Nat.zero_le _, Nat.zero_le _⟩) hP hD hS hA [12, 13, 14, 15] [0, 1, 2, 3, 4, 5, 6, 7, 8, 9, 10, 11] rfl rfl rfl (by decide) [0, 1, 2, 3, 4, 5, 6, 7, 8, 9, 10, 11, 12, 13, 14, 15] rfl (fun _ => rfl) (fun r2 _ H locs hw hP hD hS => ?_)
  refine lv_iconst (v := (-1)) hx hb dX4_layableSet_14 (by decide) ?_
  refine lv_ixor hx hb dX4_layableSet_15 ?_
  refine lv_iand hx hb dX4_layableSet_16 ?_
  exact hz (r1 &&& (r2 ^^^ (-1))) () _ _ _ _ dX4_layableSet_17 hw hP hD hS

def wp_X4_isBetter (p1 : Int32) (p2 : Int32) (Bi : Nat → Int32) (Bf : Int32) (Ra : Nat → Int32) (post : Int32 → Prop) : Prop :=
  wp_X3_countTouchedBy p1 Bi Bf (fun (r1 : Int32) => wp_X3_countTouchedBy p2 Bi Bf (fun (r2 : Int32) => gq_nm (r1 - r2) (fun v3 : Int32 => (if v3 = 0 then wp_J6_bitCount_0f7a4 p1 (fun (r5 : Int32) => wp_J6_bitCount_0f7a4 p2 (fun (r6 : Int32) => gq_nm (r5 - r6) (fun v7 : Int32 => (if v7 = 0 then wp_X1_touchesOf p1 Ra (fun (r9 : Int32) => wp_X1_touchesOf p2 Ra (fun (r10 : Int32) => (if r10 ≤ r9 then post 0 else post 1))) else (if 0 ≤ v7 then post 0 else post 1))))) else (if v3 ≤ 0 then post 0 else post 1)))))

theorem iX4_isBetter_X4 : ∀ w ∈ wsX40, w ∈ wsX4_isBetter := by decide +kernel
set_option maxHeartbeats 4000000 in
set_option maxRecDepth 100000 in
theorem c_X4_isBetter (l : Launch) (D : va_G) (ad : Nat → Nat) (ck : Nat → ClassId) (sz : Nat) (Pd : Nat → Int32) (Pm : Nat → Int32) (Ps : Int32) (Pg : Int32) (Pj : Int32) (Bt : Nat → Int32) (Bi : Nat → Int32) (Bf : Int32) (Br : Int32) (Rt : Nat → Int32) (Rl : Nat → Int32) (Rr : Nat → Int32) (Ra : Nat → Int32) (Wt : Nat → Int32) (Wa : Nat → Int32) (Wk : Nat → Int32) (Wd : Int32) (Wn : Int32) (We : Int32) (Wb : Int32) (Hv : Int32) (p1 : Int32) (p2 : Int32) (post : Int32 → Prop) (hw : wp_X4_isBetter p1 p2 Bi Bf Ra post) : Met l yX4_isBetter wsX4_isBetter { frames := 2, cells := 0, slots := 0, locals := 44 } (va_Pc [.ref (ad 0), .int p1, .int p2] (gq_pre D (tyH ck) (wdH ad ck Pd Pm Ps Pg Pj Bt Bi Bf Br Rt Rl Rr Ra Wt Wa Wk Wd Wn We Wb Hv) sz)) (va_Qi (fun (r : Int32) (_ : Unit) => post r ) (gq_at D (va_A (wdH ad ck Pd Pm Ps Pg Pj Bt Bi Bf Br Rt Rl Rr Ra Wt Wa Wk Wd Wn We Wb Hv) sz) (fun (_ : Unit) => (wdH ad ck Pd Pm Ps Pg Pj Bt Bi Bf Br Rt Rl Rr Ra Wt Wa Wk Wd Wn We Wb Hv))) (va_A (wdH ad ck Pd Pm Ps Pg Pj Bt Bi Bf Br Rt Rl Rr Ra Wt Wa Wk Wd Wn We Wb Hv) sz)) 0 0 (va_A (wdH ad ck Pd Pm Ps Pg Pj Bt Bi Bf Br Rt Rl Rr Ra Wt Wa Wk Wd Wn We Wb Hv) sz) := by
  refine gq_metz (cc := cX4_isBetter) (maxL := 5) (lv := [(0, .ref (ad 0)), (1, .int p1), (2, .int p2)]) (by decide) rfl (Nat.le_of_ble_eq_true rfl) rfl ?_
  intro p e s m below meth c A Q ls H locs hx hb hml hown hts hnw hA hK hP hD hS hl hz
  refine lv_aload_n hx hb dX4_isBetter_0 rfl (lv_at hl 0 rfl) ?_
  refine va_get (D := D) (ci := 4) (v := .ref (ad 4)) (C := RX4) (T := TX4) (N := 5) hx hb hts iX4_isBetter_X4 hown hK hP 0 rfl rfl 1 (by decide) (hts (.fieldLink RX4 19 "DecoyHouse" "book" "LDecoyHouse$WayBook;") (by decide +kernel)) (fun _ h9 => h9) rfl dX4_isBetter_1 ?_
  refine lv_iload_n hx hb dX4_isBetter_4 rfl (lv_at hl 1 rfl) ?_
  refine gq_calli (wsN := fun _ => (wdH ad ck Pd Pm Ps Pg Pj Bt Bi Bf Br Rt Rl Rr Ra Wt Wa Wk Wd Wn We Wb Hv)) (va_runV (As := [.int p1]) (rest := []) ⟨hx, hb, hml, hown, hts⟩ (c_X3_countTouchedBy l D ad ck H.size Bt Bi Bf Br p1 _ hw) (cwV 1 hts gX4_isBetter_X3_countTouchedBy rfl rfl rfl (by decide +kernel) ⟨Nat.le_of_ble_eq_true rfl, Nat.le_of_ble_eq_true rfl⟩) (gq_preV hK [2, 3] rfl hP hD [4, 5, 6] rfl rfl hnw 3 0 rfl rfl) rfl rfl hl.1 rfl (lv_room (Nat.le_of_ble_eq_true rfl)) dX4_isBetter_5 ⟨Nat.zero_le _, Nat.zero_le _⟩) hP hD hS hA [4, 5, 6] [0, 1, 2, 3, 7, 8, 9, 10, 11, 12, 13, 14, 15] rfl rfl rfl (by decide) [0, 1, 2, 3, 13, 14, 15, 4, 5, 6, 7, 8, 9, 10, 11, 12] rfl (fun _ => rfl) (fun r1 _ H locs hw hP hD hS => ?_)
  refine lv_aload_n hx hb dX4_isBetter_8 rfl (lv_at hl 0 rfl) ?_
  refine va_get (D := D) (ci := 4) (v := .ref (ad 4)) (C := RX4) (T := TX4) (N := 5) hx hb hts iX4_isBetter_X4 hown hK hP 0 rfl rfl 1 (by decide) (hts (.fieldLink RX4 19 "DecoyHouse" "book" "LDecoyHouse$WayBook;") (by decide +kernel)) (fun _ h9 => h9) rfl dX4_isBetter_9 ?_
  refine lv_iload_n hx hb dX4_isBetter_12 rfl (lv_at hl 2 rfl) ?_
  refine gq_calli (wsN := fun _ => (wdH ad ck Pd Pm Ps Pg Pj Bt Bi Bf Br Rt Rl Rr Ra Wt Wa Wk Wd Wn We Wb Hv)) (va_runV (As := [.int p2]) (rest := [.int r1]) ⟨hx, hb, hml, hown, hts⟩ (c_X3_countTouchedBy l D ad ck H.size Bt Bi Bf Br p2 _ hw) (cwV 1 hts gX4_isBetter_X3_countTouchedBy rfl rfl rfl (by decide +kernel) ⟨Nat.le_of_ble_eq_true rfl, Nat.le_of_ble_eq_true rfl⟩) (gq_preV hK [2, 3] rfl hP hD [4, 5, 6] rfl rfl hnw 3 0 rfl rfl) rfl rfl hl.1 rfl (lv_room (Nat.le_of_ble_eq_true rfl)) dX4_isBetter_13 ⟨Nat.zero_le _, Nat.zero_le _⟩) hP hD hS hA [4, 5, 6] [0, 1, 2, 3, 7, 8, 9, 10, 11, 12, 13, 14, 15] rfl rfl rfl (by decide) [0, 1, 2, 3, 13, 14, 15, 4, 5, 6, 7, 8, 9, 10, 11, 12] rfl (fun _ => rfl) (fun r2 _ H locs hw hP hD hS => ?_)
  refine lv_isub hx hb dX4_isBetter_16 ?_
  refine lv_topi (fun v3 ev3 => ?_)
  have hw := gq_at1 hw ev3
  refine lv_istore_n (lv' := [(3, .int v3), (0, .ref (ad 0)), (1, .int p1), (2, .int p2)]) hx hb dX4_isBetter_17 rfl hl (by decide) rfl (fun ls hl => ?_)
  refine lv_iload_n hx hb dX4_isBetter_18 rfl (lv_at hl 0 rfl) ?_
  refine lv_if_eq (tgt := 32) hx hb dX4_isBetter_19 (by decide) (fun c4 => ?_) (fun c4 => ?_)
  · have hw := gq_t c4 hw
    refine lv_iload_n hx hb dX4_isBetter_32 rfl (lv_at hl 2 rfl) ?_
    refine gq_calli (wsN := fun _ => (wdH ad ck Pd Pm Ps Pg Pj Bt Bi Bf Br Rt Rl Rr Ra Wt Wa Wk Wd Wn We Wb Hv)) (va_runS (As := [.int p1]) (rest := []) ⟨hx, hb, hml, hown, hts⟩ (c_J6_bitCount_0f7a4 l D H.size p1 _ hw) (va_cwS 1 hts gX4_isBetter_J6_bitCount_0f7a4 rfl rfl rfl (by decide +kernel) ⟨Nat.le_of_ble_eq_true rfl, Nat.le_of_ble_eq_true rfl⟩) (gq_preS hK [] rfl hP hD [] rfl rfl hnw) rfl rfl hl.1 rfl (lv_room (Nat.le_of_ble_eq_true rfl)) dX4_isBetter_33 ⟨Nat.zero_le _, Nat.zero_le _⟩) hP hD hS hA [] [0, 1, 2, 3, 4, 5, 6, 7, 8, 9, 10, 11, 12, 13, 14, 15] rfl rfl rfl (by decide) [0, 1, 2, 3, 4, 5, 6, 7, 8, 9, 10, 11, 12, 13, 14, 15] rfl (fun _ => rfl) (fun r5 _ H locs hw hP hD hS => ?_)
    refine lv_iload_n hx hb dX4_isBetter_36 rfl (lv_at hl 3 rfl) ?_
    refine gq_calli (wsN := fun _ => (wdH ad ck Pd Pm Ps Pg Pj Bt Bi Bf Br Rt Rl Rr Ra Wt Wa Wk Wd Wn We Wb Hv)) (va_runS (As := [.int p2]) (rest := [.int r5]) ⟨hx, hb, hml, hown, hts⟩ (c_J6_bitCount_0f7a4 l D H.size p2 _ hw) (va_cwS 1 hts gX4_isBetter_J6_bitCount_0f7a4 rfl rfl rfl (by decide +kernel) ⟨Nat.le_of_ble_eq_true rfl, Nat.le_of_ble_eq_true rfl⟩) (gq_preS hK [] rfl hP hD [] rfl rfl hnw) rfl rfl hl.1 rfl (lv_room (Nat.le_of_ble_eq_true rfl)) dX4_isBetter_37 ⟨Nat.zero_le _, Nat.zero_le _⟩) hP hD hS hA [] [0, 1, 2, 3, 4, 5, 6, 7, 8, 9, 10, 11, 12, 13, 14, 15] rfl rfl rfl (by decide) [0, 1, 2, 3, 4, 5, 6, 7, 8, 9, 10, 11, 12, 13, 14, 15] rfl (fun _ => rfl) (fun r6 _ H locs hw hP hD hS => ?_)
    refine lv_isub hx hb dX4_isBetter_40 ?_
    refine lv_topi (fun v7 ev7 => ?_)
    have hw := gq_at1 hw ev7
    refine lv_istore (lv' := [(4, .int v7), (3, .int v3), (0, .ref (ad 0)), (1, .int p1), (2, .int p2)]) hx hb dX4_isBetter_41 hl (by decide) rfl (fun ls hl => ?_)
    refine lv_iload hx hb dX4_isBetter_43 (lv_at hl 0 rfl) ?_
    refine lv_if_eq (tgt := 59) hx hb dX4_isBetter_45 (by decide) (fun c8 => ?_) (fun c8 => ?_)
    · have hw := gq_t c8 hw
      refine lv_aload_n hx hb dX4_isBetter_59 rfl (lv_at hl 2 rfl) ?_
      refine va_get (D := D) (ci := 4) (v := .ref (ad 7)) (C := RX4) (T := TX4) (N := 5) hx hb hts iX4_isBetter_X4 hown hK hP 0 rfl rfl 2 (by decide) (hts (.fieldLink RX4 26 "DecoyHouse" "rounds" "LDecoyHouse$Rounds;") (by decide +kernel)) (fun _ h9 => h9) rfl dX4_isBetter_60 ?_
      refine lv_iload_n hx hb dX4_isBetter_63 rfl (lv_at hl 3 rfl) ?_
      refine gq_calli (wsN := fun _ => (wdH ad ck Pd Pm Ps Pg Pj Bt Bi Bf Br Rt Rl Rr Ra Wt Wa Wk Wd Wn We Wb Hv)) (va_runV (As := [.int p1]) (rest := []) ⟨hx, hb, hml, hown, hts⟩ (c_X1_touchesOf l D ad ck H.size Rt Rl Rr Ra p1 _ hw) (cwV 1 hts gX4_isBetter_X1_touchesOf rfl rfl rfl (by decide +kernel) ⟨Nat.le_of_ble_eq_true rfl, Nat.le_of_ble_eq_true rfl⟩) (gq_preV hK [4, 5, 6, 7] rfl hP hD [7, 8, 9, 10, 11] rfl rfl hnw 1 0 rfl rfl) rfl rfl hl.1 rfl (lv_room (Nat.le_of_ble_eq_true rfl)) dX4_isBetter_64 ⟨Nat.zero_le _, Nat.zero_le _⟩) hP hD hS hA [7, 8, 9, 10, 11] [0, 1, 2, 3, 4, 5, 6, 12, 13, 14, 15] rfl rfl rfl (by decide) [0, 1, 2, 3, 4, 5, 6, 11, 12, 13, 14, 15, 7, 8, 9, 10] rfl (fun _ => rfl) (fun r9 _ H locs hw hP hD hS => ?_)
      refine lv_aload_n hx hb dX4_isBetter_67 rfl (lv_at hl 2 rfl) ?_
      refine va_get (D := D) (ci := 4) (v := .ref (ad 7)) (C := RX4) (T := TX4) (N := 5) hx hb hts iX4_isBetter_X4 hown hK hP 0 rfl rfl 2 (by decide) (hts (.fieldLink RX4 26 "DecoyHouse" "rounds" "LDecoyHouse$Rounds;") (by decide +kernel)) (fun _ h9 => h9) rfl dX4_isBetter_68 ?_
      refine lv_iload_n hx hb dX4_isBetter_71 rfl (lv_at hl 4 rfl) ?_
      refine gq_calli (wsN := fun _ => (wdH ad ck Pd Pm Ps Pg Pj Bt Bi Bf Br Rt Rl Rr Ra Wt Wa Wk Wd Wn We Wb Hv)) (va_runV (As := [.int p2]) (rest := [.int r9]) ⟨hx, hb, hml, hown, hts⟩ (c_X1_touchesOf l D ad ck H.size Rt Rl Rr Ra p2 _ hw) (cwV 1 hts gX4_isBetter_X1_touchesOf rfl rfl rfl (by decide +kernel) ⟨Nat.le_of_ble_eq_true rfl, Nat.le_of_ble_eq_true rfl⟩) (gq_preV hK [4, 5, 6, 7] rfl hP hD [7, 8, 9, 10, 11] rfl rfl hnw 1 0 rfl rfl) rfl rfl hl.1 rfl (lv_room (Nat.le_of_ble_eq_true rfl)) dX4_isBetter_72 ⟨Nat.zero_le _, Nat.zero_le _⟩) hP hD hS hA [7, 8, 9, 10, 11] [0, 1, 2, 3, 4, 5, 6, 12, 13, 14, 15] rfl rfl rfl (by decide) [0, 1, 2, 3, 4, 5, 6, 11, 12, 13, 14, 15, 7, 8, 9, 10] rfl (fun _ => rfl) (fun r10 _ H locs hw hP hD hS => ?_)
      refine lv_icmp_ge (tgt := 82) hx hb dX4_isBetter_75 (by decide) (fun c11 => ?_) (fun c11 => ?_)
      · have hw := gq_t c11 hw
        refine lv_iconst (v := 0) hx hb dX4_isBetter_82 (by decide) ?_
        exact hz 0 () _ _ _ _ dX4_isBetter_83 gq_zb0 hw hP hD hS
      · have hw := gq_f c11 hw
        refine lv_iconst (v := 1) hx hb dX4_isBetter_78 (by decide) ?_
        refine lv_goto (tgt := 83) hx hb dX4_isBetter_79 (by decide) ?_
        exact hz 1 () _ _ _ _ dX4_isBetter_83 gq_zb1 hw hP hD hS
    · have hw := gq_f c8 hw
      refine lv_iload hx hb dX4_isBetter_48 (lv_at hl 0 rfl) ?_
      refine lv_if_ge (tgt := 57) hx hb dX4_isBetter_50 (by decide) (fun c12 => ?_) (fun c12 => ?_)
      · have hw := gq_t c12 hw
        refine lv_iconst (v := 0) hx hb dX4_isBetter_57 (by decide) ?_
        exact hz 0 () _ _ _ _ dX4_isBetter_58 gq_zb0 hw hP hD hS
      · have hw := gq_f c12 hw
        refine lv_iconst (v := 1) hx hb dX4_isBetter_53 (by decide) ?_
        refine lv_goto (tgt := 58) hx hb dX4_isBetter_54 (by decide) ?_
        exact hz 1 () _ _ _ _ dX4_isBetter_58 gq_zb1 hw hP hD hS
  · have hw := gq_f c4 hw
    refine lv_iload_n hx hb dX4_isBetter_22 rfl (lv_at hl 0 rfl) ?_
    refine lv_if_le (tgt := 30) hx hb dX4_isBetter_23 (by decide) (fun c13 => ?_) (fun c13 => ?_)
    · have hw := gq_t c13 hw
      refine lv_iconst (v := 0) hx hb dX4_isBetter_30 (by decide) ?_
      exact hz 0 () _ _ _ _ dX4_isBetter_31 gq_zb0 hw hP hD hS
    · have hw := gq_f c13 hw
      refine lv_iconst (v := 1) hx hb dX4_isBetter_26 (by decide) ?_
      refine lv_goto (tgt := 31) hx hb dX4_isBetter_27 (by decide) ?_
      exact hz 1 () _ _ _ _ dX4_isBetter_31 gq_zb1 hw hP hD hS

def wl_X4_findBest_11 (p1 : Int32) (p2 : Int32) (Bi : Nat → Int32) (Bf : Int32) (Ra : Nat → Int32) (r1 : Int32)   (post : Int32 → Prop) : Nat → Int32 → Int32 → Prop
  | 0, _, _ => False
  | n11 + 1, x2, x3 => (if r1 < x3 then post x2 else (if (x3 &&& (r1 ^^^ (-1))) = 0 then wp_J6_bitCount_0f7a4 x3 (fun (r12 : Int32) => (if p1 < r12 then (if (0 : Int32) = 0 then gq_nm (x3 + 1) (fun v15 : Int32 => wl_X4_findBest_11 p1 p2 Bi Bf Ra r1 post n11 x2 v15) else wp_X4_isBetter x3 x2 Bi Bf Ra (fun (r16 : Int32) => (if r16 = 0 then gq_nm (x3 + 1) (fun v18 : Int32 => wl_X4_findBest_11 p1 p2 Bi Bf Ra r1 post n11 x2 v18) else gq_nm (x3 + 1) (fun v19 : Int32 => wl_X4_findBest_11 p1 p2 Bi Bf Ra r1 post n11 x3 v19)))) else wp_X1_touchesOf x3 Ra (fun (r20 : Int32) => (if p2 < r20 then (if (0 : Int32) = 0 then gq_nm (x3 + 1) (fun v23 : Int32 => wl_X4_findBest_11 p1 p2 Bi Bf Ra r1 post n11 x2 v23) else wp_X4_isBetter x3 x2 Bi Bf Ra (fun (r24 : Int32) => (if r24 = 0 then gq_nm (x3 + 1) (fun v26 : Int32 => wl_X4_findBest_11 p1 p2 Bi Bf Ra r1 post n11 x2 v26) else gq_nm (x3 + 1) (fun v27 : Int32 => wl_X4_findBest_11 p1 p2 Bi Bf Ra r1 post n11 x3 v27)))) else (if (1 : Int32) = 0 then gq_nm (x3 + 1) (fun v29 : Int32 => wl_X4_findBest_11 p1 p2 Bi Bf Ra r1 post n11 x2 v29) else wp_X4_isBetter x3 x2 Bi Bf Ra (fun (r30 : Int32) => (if r30 = 0 then gq_nm (x3 + 1) (fun v32 : Int32 => wl_X4_findBest_11 p1 p2 Bi Bf Ra r1 post n11 x2 v32) else gq_nm (x3 + 1) (fun v33 : Int32 => wl_X4_findBest_11 p1 p2 Bi Bf Ra r1 post n11 x3 v33)))))))) else (if (0 : Int32) = 0 then gq_nm (x3 + 1) (fun v7 : Int32 => wl_X4_findBest_11 p1 p2 Bi Bf Ra r1 post n11 x2 v7) else wp_X4_isBetter x3 x2 Bi Bf Ra (fun (r8 : Int32) => (if r8 = 0 then gq_nm (x3 + 1) (fun v10 : Int32 => wl_X4_findBest_11 p1 p2 Bi Bf Ra r1 post n11 x2 v10) else gq_nm (x3 + 1) (fun v11 : Int32 => wl_X4_findBest_11 p1 p2 Bi Bf Ra r1 post n11 x3 v11))))))

def wp_X4_findBest (p1 : Int32) (p2 : Int32) (Ps : Int32) (Pg : Int32) (Pj : Int32) (Bi : Nat → Int32) (Bf : Int32) (Ra : Nat → Int32) (Wk : Nat → Int32) (We : Int32) (post : Int32 → Prop) : Prop :=
  wp_X4_layableSet Ps Pg Pj Wk We (fun (r1 : Int32) => ∃ k11, wl_X4_findBest_11 p1 p2 Bi Bf Ra r1 post k11 0 1)

theorem iX4_findBest_X4 : ∀ w ∈ wsX40, w ∈ wsX4_findBest := by decide +kernel
set_option maxHeartbeats 4000000 in
set_option maxRecDepth 100000 in
theorem c_X4_findBest (l : Launch) (D : va_G) (ad : Nat → Nat) (ck : Nat → ClassId) (sz : Nat) (Pd : Nat → Int32) (Pm : Nat → Int32) (Ps : Int32) (Pg : Int32) (Pj : Int32) (Bt : Nat → Int32) (Bi : Nat → Int32) (Bf : Int32) (Br : Int32) (Rt : Nat → Int32) (Rl : Nat → Int32) (Rr : Nat → Int32) (Ra : Nat → Int32) (Wt : Nat → Int32) (Wa : Nat → Int32) (Wk : Nat → Int32) (Wd : Int32) (Wn : Int32) (We : Int32) (Wb : Int32) (Hv : Int32) (p1 : Int32) (p2 : Int32) (post : Int32 → Prop) (hw : wp_X4_findBest p1 p2 Ps Pg Pj Bi Bf Ra Wk We post) : Met l yX4_findBest wsX4_findBest { frames := 3, cells := 0, slots := 0, locals := 68 } (va_Pc [.ref (ad 0), .int p1, .int p2] (gq_pre D (tyH ck) (wdH ad ck Pd Pm Ps Pg Pj Bt Bi Bf Br Rt Rl Rr Ra Wt Wa Wk Wd Wn We Wb Hv) sz)) (va_Qi (fun (r : Int32) (_ : Unit) => post r ) (gq_at D (va_A (wdH ad ck Pd Pm Ps Pg Pj Bt Bi Bf Br Rt Rl Rr Ra Wt Wa Wk Wd Wn We Wb Hv) sz) (fun (_ : Unit) => (wdH ad ck Pd Pm Ps Pg Pj Bt Bi Bf Br Rt Rl Rr Ra Wt Wa Wk Wd Wn We Wb Hv))) (va_A (wdH ad ck Pd Pm Ps Pg Pj Bt Bi Bf Br Rt Rl Rr Ra Wt Wa Wk Wd Wn We Wb Hv) sz)) 0 0 (va_A (wdH ad ck Pd Pm Ps Pg Pj Bt Bi Bf Br Rt Rl Rr Ra Wt Wa Wk Wd Wn We Wb Hv) sz) := by
  refine gq_meti (cc := cX4_findBest) (maxL := 7) (lv := [(0, .ref (ad 0)), (1, .int p1), (2, .int p2)]) (by decide) rfl (Nat.le_of_ble_eq_true rfl) rfl ?_
  intro p e s m below meth c A Q ls H locs hx hb hml hown hts hnw hA hK hP hD hS hl hz
  refine lv_aload_n hx hb dX4_findBest_0 rfl (lv_at hl 0 rfl) ?_
  refine gq_calli (wsN := fun _ => (wdH ad ck Pd Pm Ps Pg Pj Bt Bi Bf Br Rt Rl Rr Ra Wt Wa Wk Wd Wn We Wb Hv)) (va_runV (As := []) (rest := []) ⟨hx, hb, hml, hown, hts⟩ (c_X4_layableSet l D ad ck H.size Pd Pm Ps Pg Pj Bt Bi Bf Br Rt Rl Rr Ra Wt Wa Wk Wd Wn We Wb Hv  _ hw) (cwV 0 hts gX4_findBest_X4_layableSet rfl rfl rfl (by decide +kernel) ⟨Nat.le_of_ble_eq_true rfl, Nat.le_of_ble_eq_true rfl⟩) (gq_preV hK [0, 1, 2, 3, 4, 5, 6, 7, 8, 9, 10] rfl hP hD [0, 1, 2, 3, 4, 5, 6, 7, 8, 9, 10, 11, 12, 13, 14, 15] rfl rfl hnw 4 0 rfl rfl) rfl rfl hl.1 rfl (lv_room (Nat.le_of_ble_eq_true rfl)) dX4_findBest_1 ⟨Nat.zero_le _, Nat.zero_le _⟩) hP hD hS hA [0, 1, 2, 3, 4, 5, 6, 7, 8, 9, 10, 11, 12, 13, 14, 15] [] rfl rfl rfl (by decide) [0, 1, 2, 3, 4, 5, 6, 7, 8, 9, 10, 11, 12, 13, 14, 15] rfl (fun _ => rfl) (fun r1 _ H locs hw hP hD hS => ?_)
  refine lv_istore_n (lv' := [(3, .int r1), (0, .ref (ad 0)), (1, .int p1), (2, .int p2)]) hx hb dX4_findBest_4 rfl hl (by decide) rfl (fun ls hl => ?_)
  refine lv_iconst (v := 0) hx hb dX4_findBest_5 (by decide) ?_
  refine lv_istore (lv' := [(4, .int 0), (3, .int r1), (0, .ref (ad 0)), (1, .int p1), (2, .int p2)]) hx hb dX4_findBest_6 hl (by decide) rfl (fun ls hl => ?_)
  refine lv_iconst (v := 1) hx hb dX4_findBest_8 (by decide) ?_
  refine lv_istore (lv' := [(5, .int 1), (4, .int 0), (3, .int r1), (0, .ref (ad 0)), (1, .int p1), (2, .int p2)]) hx hb dX4_findBest_9 hl (by decide) rfl (fun ls hl => ?_)
  have hL11 : ∀ (n : Nat) (x2 : Int32) (x3 : Int32) (H : Heap) (locs : List Loc), wl_X4_findBest_11 p1 p2 Bi Bf Ra r1 post n x2 x3 → va_P D vwCl (wdH ad ck Pd Pm Ps Pg Pj Bt Bi Bf Br Rt Rl Rr Ra Wt Wa Wk Wd Wn We Wb Hv) H → va_D A (wdH ad ck Pd Pm Ps Pg Pj Bt Bi Bf Br Rt Rl Rr Ra Wt Wa Wk Wd Wn We Wb Hv) → va_S A s.heap H locs → ∀ ls : Array Slot, lv_has ls 7 [(0, .ref (ad 0)), (1, .int p1), (2, .int p2), (3, .int r1), (4, .int x2), (5, .int x3)] → W p l e { frames := 3, cells := 0, slots := 0, locals := 68 } s m ([.ref (ad 0), .int p1, .int p2] : List Value).toArray below meth c H locs 0 0 Q (F0 m 11 ls []) := by
    intro n
    induction n with
    | zero =>
      intro x2 x3 H locs hw
      exact hw.elim
    | succ n ih =>
      intro x2 x3 H locs hw hP hD hS ls hl
      refine lv_iload hx hb dX4_findBest_11 (lv_at hl 5 rfl) ?_
      refine lv_iload_n hx hb dX4_findBest_13 rfl (lv_at hl 3 rfl) ?_
      refine lv_icmp_gt (tgt := 81) hx hb dX4_findBest_14 (by decide) (fun c4 => ?_) (fun c4 => ?_)
      · have hw := gq_t c4 hw
        refine lv_iload hx hb dX4_findBest_81 (lv_at hl 4 rfl) ?_
        exact hz x2 () _ _ _ _ dX4_findBest_83 hw hP hD hS
      · have hw := gq_f c4 hw
        refine lv_iload hx hb dX4_findBest_17 (lv_at hl 5 rfl) ?_
        refine lv_iload_n hx hb dX4_findBest_19 rfl (lv_at hl 3 rfl) ?_
        refine lv_iconst (v := (-1)) hx hb dX4_findBest_20 (by decide) ?_
        refine lv_ixor hx hb dX4_findBest_21 ?_
        refine lv_iand hx hb dX4_findBest_22 ?_
        refine lv_if_ne (tgt := 52) hx hb dX4_findBest_23 (by decide) (fun c5 => ?_) (fun c5 => ?_)
        · have hw := gq_f c5 hw
          refine lv_iconst (v := 0) hx hb dX4_findBest_52 (by decide) ?_
          refine lv_istore (lv' := [(6, .int 0), (0, .ref (ad 0)), (1, .int p1), (2, .int p2), (3, .int r1), (4, .int x2), (5, .int x3)]) hx hb dX4_findBest_53 hl (by decide) rfl (fun ls hl => ?_)
          refine lv_iload hx hb dX4_findBest_55 (lv_at hl 0 rfl) ?_
          refine lv_if_eq (tgt := 75) hx hb dX4_findBest_57 (by decide) (fun c6 => ?_) (fun c6 => ?_)
          · have hw := gq_t c6 hw
            obtain ⟨v7, ev7⟩ : ∃ y : Int32, y = x3 + 1 := ⟨_, rfl⟩
            have hw := gq_at1 hw ev7
            refine lv_iinc (v := v7) (lv' := [(5, .int v7), (6, .int 0), (0, .ref (ad 0)), (1, .int p1), (2, .int p2), (3, .int r1), (4, .int x2)]) hx hb dX4_findBest_75 hl (k := 6) rfl (by rw [ev7]; rfl) (by decide) rfl (fun ls hl => ?_)
            refine lv_goto (tgt := 11) hx hb dX4_findBest_78 (by decide) ?_
            exact ih x2 v7 _ _ hw hP hD hS ls (lv_sub hl [2, 3, 4, 5, 6, 0] rfl)
          · have hw := gq_f c6 hw
            refine lv_aload_n hx hb dX4_findBest_60 rfl (lv_at hl 1 rfl) ?_
            refine lv_iload hx hb dX4_findBest_61 (lv_at hl 6 rfl) ?_
            refine lv_iload hx hb dX4_findBest_63 (lv_at hl 5 rfl) ?_
            refine gq_calli (wsN := fun _ => (wdH ad ck Pd Pm Ps Pg Pj Bt Bi Bf Br Rt Rl Rr Ra Wt Wa Wk Wd Wn We Wb Hv)) (va_runV (As := [.int x3, .int x2]) (rest := []) ⟨hx, hb, hml, hown, hts⟩ (c_X4_isBetter l D ad ck H.size Pd Pm Ps Pg Pj Bt Bi Bf Br Rt Rl Rr Ra Wt Wa Wk Wd Wn We Wb Hv x3 x2 _ hw) (cwV 2 hts gX4_findBest_X4_isBetter rfl rfl rfl (by decide +kernel) ⟨Nat.le_of_ble_eq_true rfl, Nat.le_of_ble_eq_true rfl⟩) (gq_preV hK [0, 1, 2, 3, 4, 5, 6, 7, 8, 9, 10] rfl hP hD [0, 1, 2, 3, 4, 5, 6, 7, 8, 9, 10, 11, 12, 13, 14, 15] rfl rfl hnw 4 0 rfl rfl) rfl rfl hl.1 rfl (lv_room (Nat.le_of_ble_eq_true rfl)) dX4_findBest_65 ⟨Nat.zero_le _, Nat.zero_le _⟩) hP hD hS hA [0, 1, 2, 3, 4, 5, 6, 7, 8, 9, 10, 11, 12, 13, 14, 15] [] rfl rfl rfl (by decide) [0, 1, 2, 3, 4, 5, 6, 7, 8, 9, 10, 11, 12, 13, 14, 15] rfl (fun _ => rfl) (fun r8 _ H locs hw hP hD hS => ?_)
            refine lv_if_eq (tgt := 75) hx hb dX4_findBest_68 (by decide) (fun c9 => ?_) (fun c9 => ?_)
            · have hw := gq_t c9 hw
              obtain ⟨v10, ev10⟩ : ∃ y : Int32, y = x3 + 1 := ⟨_, rfl⟩
              have hw := gq_at1 hw ev10
              refine lv_iinc (v := v10) (lv' := [(5, .int v10), (6, .int 0), (0, .ref (ad 0)), (1, .int p1), (2, .int p2), (3, .int r1), (4, .int x2)]) hx hb dX4_findBest_75 hl (k := 6) rfl (by rw [ev10]; rfl) (by decide) rfl (fun ls hl => ?_)
              refine lv_goto (tgt := 11) hx hb dX4_findBest_78 (by decide) ?_
              exact ih x2 v10 _ _ hw hP hD hS ls (lv_sub hl [2, 3, 4, 5, 6, 0] rfl)
            · have hw := gq_f c9 hw
              refine lv_iload hx hb dX4_findBest_71 (lv_at hl 6 rfl) ?_
              refine lv_istore (lv' := [(4, .int x3), (6, .int 0), (0, .ref (ad 0)), (1, .int p1), (2, .int p2), (3, .int r1), (5, .int x3)]) hx hb dX4_findBest_73 hl (by decide) rfl (fun ls hl => ?_)
              obtain ⟨v11, ev11⟩ : ∃ y : Int32, y = x3 + 1 := ⟨_, rfl⟩
              have hw := gq_at1 hw ev11
              refine lv_iinc (v := v11) (lv' := [(5, .int v11), (4, .int x3), (6, .int 0), (0, .ref (ad 0)), (1, .int p1), (2, .int p2), (3, .int r1)]) hx hb dX4_findBest_75 hl (k := 6) rfl (by rw [ev11]; rfl) (by decide) rfl (fun ls hl => ?_)
              refine lv_goto (tgt := 11) hx hb dX4_findBest_78 (by decide) ?_
              exact ih x3 v11 _ _ hw hP hD hS ls (lv_sub hl [3, 4, 5, 6, 1, 0] rfl)
        · have hw := gq_t c5 hw
          refine lv_iload hx hb dX4_findBest_26 (lv_at hl 5 rfl) ?_
          refine gq_calli (wsN := fun _ => (wdH ad ck Pd Pm Ps Pg Pj Bt Bi Bf Br Rt Rl Rr Ra Wt Wa Wk Wd Wn We Wb Hv)) (va_runS (As := [.int x3]) (rest := []) ⟨hx, hb, hml, hown, hts⟩ (c_J6_bitCount_0f7a4 l D H.size x3 _ hw) (va_cwS 1 hts gX4_findBest_J6_bitCount_0f7a4 rfl rfl rfl (by decide +kernel) ⟨Nat.le_of_ble_eq_true rfl, Nat.le_of_ble_eq_true rfl⟩) (gq_preS hK [] rfl hP hD [] rfl rfl hnw) rfl rfl hl.1 rfl (lv_room (Nat.le_of_ble_eq_true rfl)) dX4_findBest_28 ⟨Nat.zero_le _, Nat.zero_le _⟩) hP hD hS hA [] [0, 1, 2, 3, 4, 5, 6, 7, 8, 9, 10, 11, 12, 13, 14, 15] rfl rfl rfl (by decide) [0, 1, 2, 3, 4, 5, 6, 7, 8, 9, 10, 11, 12, 13, 14, 15] rfl (fun _ => rfl) (fun r12 _ H locs hw hP hD hS => ?_)
          refine lv_iload_n hx hb dX4_findBest_31 rfl (lv_at hl 1 rfl) ?_
          refine lv_icmp_gt (tgt := 52) hx hb dX4_findBest_32 (by decide) (fun c13 => ?_) (fun c13 => ?_)
          · have hw := gq_t c13 hw
            refine lv_iconst (v := 0) hx hb dX4_findBest_52 (by decide) ?_
            refine lv_istore (lv' := [(6, .int 0), (0, .ref (ad 0)), (1, .int p1), (2, .int p2), (3, .int r1), (4, .int x2), (5, .int x3)]) hx hb dX4_findBest_53 hl (by decide) rfl (fun ls hl => ?_)
            refine lv_iload hx hb dX4_findBest_55 (lv_at hl 0 rfl) ?_
            refine lv_if_eq (tgt := 75) hx hb dX4_findBest_57 (by decide) (fun c14 => ?_) (fun c14 => ?_)
            · have hw := gq_t c14 hw
              obtain ⟨v15, ev15⟩ : ∃ y : Int32, y = x3 + 1 := ⟨_, rfl⟩
              have hw := gq_at1 hw ev15
              refine lv_iinc (v := v15) (lv' := [(5, .int v15), (6, .int 0), (0, .ref (ad 0)), (1, .int p1), (2, .int p2), (3, .int r1), (4, .int x2)]) hx hb dX4_findBest_75 hl (k := 6) rfl (by rw [ev15]; rfl) (by decide) rfl (fun ls hl => ?_)
              refine lv_goto (tgt := 11) hx hb dX4_findBest_78 (by decide) ?_
              exact ih x2 v15 _ _ hw hP hD hS ls (lv_sub hl [2, 3, 4, 5, 6, 0] rfl)
            · have hw := gq_f c14 hw
              refine lv_aload_n hx hb dX4_findBest_60 rfl (lv_at hl 1 rfl) ?_
              refine lv_iload hx hb dX4_findBest_61 (lv_at hl 6 rfl) ?_
              refine lv_iload hx hb dX4_findBest_63 (lv_at hl 5 rfl) ?_
              refine gq_calli (wsN := fun _ => (wdH ad ck Pd Pm Ps Pg Pj Bt Bi Bf Br Rt Rl Rr Ra Wt Wa Wk Wd Wn We Wb Hv)) (va_runV (As := [.int x3, .int x2]) (rest := []) ⟨hx, hb, hml, hown, hts⟩ (c_X4_isBetter l D ad ck H.size Pd Pm Ps Pg Pj Bt Bi Bf Br Rt Rl Rr Ra Wt Wa Wk Wd Wn We Wb Hv x3 x2 _ hw) (cwV 2 hts gX4_findBest_X4_isBetter rfl rfl rfl (by decide +kernel) ⟨Nat.le_of_ble_eq_true rfl, Nat.le_of_ble_eq_true rfl⟩) (gq_preV hK [0, 1, 2, 3, 4, 5, 6, 7, 8, 9, 10] rfl hP hD [0, 1, 2, 3, 4, 5, 6, 7, 8, 9, 10, 11, 12, 13, 14, 15] rfl rfl hnw 4 0 rfl rfl) rfl rfl hl.1 rfl (lv_room (Nat.le_of_ble_eq_true rfl)) dX4_findBest_65 ⟨Nat.zero_le _, Nat.zero_le _⟩) hP hD hS hA [0, 1, 2, 3, 4, 5, 6, 7, 8, 9, 10, 11, 12, 13, 14, 15] [] rfl rfl rfl (by decide) [0, 1, 2, 3, 4, 5, 6, 7, 8, 9, 10, 11, 12, 13, 14, 15] rfl (fun _ => rfl) (fun r16 _ H locs hw hP hD hS => ?_)
              refine lv_if_eq (tgt := 75) hx hb dX4_findBest_68 (by decide) (fun c17 => ?_) (fun c17 => ?_)
              · have hw := gq_t c17 hw
                obtain ⟨v18, ev18⟩ : ∃ y : Int32, y = x3 + 1 := ⟨_, rfl⟩
                have hw := gq_at1 hw ev18
                refine lv_iinc (v := v18) (lv' := [(5, .int v18), (6, .int 0), (0, .ref (ad 0)), (1, .int p1), (2, .int p2), (3, .int r1), (4, .int x2)]) hx hb dX4_findBest_75 hl (k := 6) rfl (by rw [ev18]; rfl) (by decide) rfl (fun ls hl => ?_)
                refine lv_goto (tgt := 11) hx hb dX4_findBest_78 (by decide) ?_
                exact ih x2 v18 _ _ hw hP hD hS ls (lv_sub hl [2, 3, 4, 5, 6, 0] rfl)
              · have hw := gq_f c17 hw
                refine lv_iload hx hb dX4_findBest_71 (lv_at hl 6 rfl) ?_
                refine lv_istore (lv' := [(4, .int x3), (6, .int 0), (0, .ref (ad 0)), (1, .int p1), (2, .int p2), (3, .int r1), (5, .int x3)]) hx hb dX4_findBest_73 hl (by decide) rfl (fun ls hl => ?_)
                obtain ⟨v19, ev19⟩ : ∃ y : Int32, y = x3 + 1 := ⟨_, rfl⟩
                have hw := gq_at1 hw ev19
                refine lv_iinc (v := v19) (lv' := [(5, .int v19), (4, .int x3), (6, .int 0), (0, .ref (ad 0)), (1, .int p1), (2, .int p2), (3, .int r1)]) hx hb dX4_findBest_75 hl (k := 6) rfl (by rw [ev19]; rfl) (by decide) rfl (fun ls hl => ?_)
                refine lv_goto (tgt := 11) hx hb dX4_findBest_78 (by decide) ?_
                exact ih x3 v19 _ _ hw hP hD hS ls (lv_sub hl [3, 4, 5, 6, 1, 0] rfl)
          · have hw := gq_f c13 hw
            refine lv_aload_n hx hb dX4_findBest_35 rfl (lv_at hl 0 rfl) ?_
            refine va_get (D := D) (ci := 4) (v := .ref (ad 7)) (C := RX4) (T := TX4) (N := 5) hx hb hts iX4_findBest_X4 hown hK hP 0 rfl rfl 2 (by decide) (hts (.fieldLink RX4 26 "DecoyHouse" "rounds" "LDecoyHouse$Rounds;") (by decide +kernel)) (fun _ h9 => h9) rfl dX4_findBest_36 ?_
            refine lv_iload hx hb dX4_findBest_39 (lv_at hl 5 rfl) ?_
            refine gq_calli (wsN := fun _ => (wdH ad ck Pd Pm Ps Pg Pj Bt Bi Bf Br Rt Rl Rr Ra Wt Wa Wk Wd Wn We Wb Hv)) (va_runV (As := [.int x3]) (rest := []) ⟨hx, hb, hml, hown, hts⟩ (c_X1_touchesOf l D ad ck H.size Rt Rl Rr Ra x3 _ hw) (cwV 1 hts gX4_findBest_X1_touchesOf rfl rfl rfl (by decide +kernel) ⟨Nat.le_of_ble_eq_true rfl, Nat.le_of_ble_eq_true rfl⟩) (gq_preV hK [4, 5, 6, 7] rfl hP hD [7, 8, 9, 10, 11] rfl rfl hnw 1 0 rfl rfl) rfl rfl hl.1 rfl (lv_room (Nat.le_of_ble_eq_true rfl)) dX4_findBest_41 ⟨Nat.zero_le _, Nat.zero_le _⟩) hP hD hS hA [7, 8, 9, 10, 11] [0, 1, 2, 3, 4, 5, 6, 12, 13, 14, 15] rfl rfl rfl (by decide) [0, 1, 2, 3, 4, 5, 6, 11, 12, 13, 14, 15, 7, 8, 9, 10] rfl (fun _ => rfl) (fun r20 _ H locs hw hP hD hS => ?_)
            refine lv_iload_n hx hb dX4_findBest_44 rfl (lv_at hl 2 rfl) ?_
            refine lv_icmp_gt (tgt := 52) hx hb dX4_findBest_45 (by decide) (fun c21 => ?_) (fun c21 => ?_)
            · have hw := gq_t c21 hw
              refine lv_iconst (v := 0) hx hb dX4_findBest_52 (by decide) ?_
              refine lv_istore (lv' := [(6, .int 0), (0, .ref (ad 0)), (1, .int p1), (2, .int p2), (3, .int r1), (4, .int x2), (5, .int x3)]) hx hb dX4_findBest_53 hl (by decide) rfl (fun ls hl => ?_)
              refine lv_iload hx hb dX4_findBest_55 (lv_at hl 0 rfl) ?_
              refine lv_if_eq (tgt := 75) hx hb dX4_findBest_57 (by decide) (fun c22 => ?_) (fun c22 => ?_)
              · have hw := gq_t c22 hw
                obtain ⟨v23, ev23⟩ : ∃ y : Int32, y = x3 + 1 := ⟨_, rfl⟩
                have hw := gq_at1 hw ev23
                refine lv_iinc (v := v23) (lv' := [(5, .int v23), (6, .int 0), (0, .ref (ad 0)), (1, .int p1), (2, .int p2), (3, .int r1), (4, .int x2)]) hx hb dX4_findBest_75 hl (k := 6) rfl (by rw [ev23]; rfl) (by decide) rfl (fun ls hl => ?_)
                refine lv_goto (tgt := 11) hx hb dX4_findBest_78 (by decide) ?_
                exact ih x2 v23 _ _ hw hP hD hS ls (lv_sub hl [2, 3, 4, 5, 6, 0] rfl)
              · have hw := gq_f c22 hw
                refine lv_aload_n hx hb dX4_findBest_60 rfl (lv_at hl 1 rfl) ?_
                refine lv_iload hx hb dX4_findBest_61 (lv_at hl 6 rfl) ?_
                refine lv_iload hx hb dX4_findBest_63 (lv_at hl 5 rfl) ?_
                refine gq_calli (wsN := fun _ => (wdH ad ck Pd Pm Ps Pg Pj Bt Bi Bf Br Rt Rl Rr Ra Wt Wa Wk Wd Wn We Wb Hv)) (va_runV (As := [.int x3, .int x2]) (rest := []) ⟨hx, hb, hml, hown, hts⟩ (c_X4_isBetter l D ad ck H.size Pd Pm Ps Pg Pj Bt Bi Bf Br Rt Rl Rr Ra Wt Wa Wk Wd Wn We Wb Hv x3 x2 _ hw) (cwV 2 hts gX4_findBest_X4_isBetter rfl rfl rfl (by decide +kernel) ⟨Nat.le_of_ble_eq_true rfl, Nat.le_of_ble_eq_true rfl⟩) (gq_preV hK [0, 1, 2, 3, 4, 5, 6, 7, 8, 9, 10] rfl hP hD [0, 1, 2, 3, 4, 5, 6, 7, 8, 9, 10, 11, 12, 13, 14, 15] rfl rfl hnw 4 0 rfl rfl) rfl rfl hl.1 rfl (lv_room (Nat.le_of_ble_eq_true rfl)) dX4_findBest_65 ⟨Nat.zero_le _, Nat.zero_le _⟩) hP hD hS hA [0, 1, 2, 3, 4, 5, 6, 7, 8, 9, 10, 11, 12, 13, 14, 15] [] rfl rfl rfl (by decide) [0, 1, 2, 3, 4, 5, 6, 7, 8, 9, 10, 11, 12, 13, 14, 15] rfl (fun _ => rfl) (fun r24 _ H locs hw hP hD hS => ?_)
                refine lv_if_eq (tgt := 75) hx hb dX4_findBest_68 (by decide) (fun c25 => ?_) (fun c25 => ?_)
                · have hw := gq_t c25 hw
                  obtain ⟨v26, ev26⟩ : ∃ y : Int32, y = x3 + 1 := ⟨_, rfl⟩
                  have hw := gq_at1 hw ev26
                  refine lv_iinc (v := v26) (lv' := [(5, .int v26), (6, .int 0), (0, .ref (ad 0)), (1, .int p1), (2, .int p2), (3, .int r1), (4, .int x2)]) hx hb dX4_findBest_75 hl (k := 6) rfl (by rw [ev26]; rfl) (by decide) rfl (fun ls hl => ?_)
                  refine lv_goto (tgt := 11) hx hb dX4_findBest_78 (by decide) ?_
                  exact ih x2 v26 _ _ hw hP hD hS ls (lv_sub hl [2, 3, 4, 5, 6, 0] rfl)
                · have hw := gq_f c25 hw
                  refine lv_iload hx hb dX4_findBest_71 (lv_at hl 6 rfl) ?_
                  refine lv_istore (lv' := [(4, .int x3), (6, .int 0), (0, .ref (ad 0)), (1, .int p1), (2, .int p2), (3, .int r1), (5, .int x3)]) hx hb dX4_findBest_73 hl (by decide) rfl (fun ls hl => ?_)
                  obtain ⟨v27, ev27⟩ : ∃ y : Int32, y = x3 + 1 := ⟨_, rfl⟩
                  have hw := gq_at1 hw ev27
                  refine lv_iinc (v := v27) (lv' := [(5, .int v27), (4, .int x3), (6, .int 0), (0, .ref (ad 0)), (1, .int p1), (2, .int p2), (3, .int r1)]) hx hb dX4_findBest_75 hl (k := 6) rfl (by rw [ev27]; rfl) (by decide) rfl (fun ls hl => ?_)
                  refine lv_goto (tgt := 11) hx hb dX4_findBest_78 (by decide) ?_
                  exact ih x3 v27 _ _ hw hP hD hS ls (lv_sub hl [3, 4, 5, 6, 1, 0] rfl)
            · have hw := gq_f c21 hw
              refine lv_iconst (v := 1) hx hb dX4_findBest_48 (by decide) ?_
              refine lv_goto (tgt := 53) hx hb dX4_findBest_49 (by decide) ?_
              refine lv_istore (lv' := [(6, .int 1), (0, .ref (ad 0)), (1, .int p1), (2, .int p2), (3, .int r1), (4, .int x2), (5, .int x3)]) hx hb dX4_findBest_53 hl (by decide) rfl (fun ls hl => ?_)
              refine lv_iload hx hb dX4_findBest_55 (lv_at hl 0 rfl) ?_
              refine lv_if_eq (tgt := 75) hx hb dX4_findBest_57 (by decide) (fun c28 => ?_) (fun c28 => ?_)
              · have hw := gq_t c28 hw
                obtain ⟨v29, ev29⟩ : ∃ y : Int32, y = x3 + 1 := ⟨_, rfl⟩
                have hw := gq_at1 hw ev29
                refine lv_iinc (v := v29) (lv' := [(5, .int v29), (6, .int 1), (0, .ref (ad 0)), (1, .int p1), (2, .int p2), (3, .int r1), (4, .int x2)]) hx hb dX4_findBest_75 hl (k := 6) rfl (by rw [ev29]; rfl) (by decide) rfl (fun ls hl => ?_)
                refine lv_goto (tgt := 11) hx hb dX4_findBest_78 (by decide) ?_
                exact ih x2 v29 _ _ hw hP hD hS ls (lv_sub hl [2, 3, 4, 5, 6, 0] rfl)
              · have hw := gq_f c28 hw
                refine lv_aload_n hx hb dX4_findBest_60 rfl (lv_at hl 1 rfl) ?_
                refine lv_iload hx hb dX4_findBest_61 (lv_at hl 6 rfl) ?_
                refine lv_iload hx hb dX4_findBest_63 (lv_at hl 5 rfl) ?_
                refine gq_calli (wsN := fun _ => (wdH ad ck Pd Pm Ps Pg Pj Bt Bi Bf Br Rt Rl Rr Ra Wt Wa Wk Wd Wn We Wb Hv)) (va_runV (As := [.int x3, .int x2]) (rest := []) ⟨hx, hb, hml, hown, hts⟩ (c_X4_isBetter l D ad ck H.size Pd Pm Ps Pg Pj Bt Bi Bf Br Rt Rl Rr Ra Wt Wa Wk Wd Wn We Wb Hv x3 x2 _ hw) (cwV 2 hts gX4_findBest_X4_isBetter rfl rfl rfl (by decide +kernel) ⟨Nat.le_of_ble_eq_true rfl, Nat.le_of_ble_eq_true rfl⟩) (gq_preV hK [0, 1, 2, 3, 4, 5, 6, 7, 8, 9, 10] rfl hP hD [0, 1, 2, 3, 4, 5, 6, 7, 8, 9, 10, 11, 12, 13, 14, 15] rfl rfl hnw 4 0 rfl rfl) rfl rfl hl.1 rfl (lv_room (Nat.le_of_ble_eq_true rfl)) dX4_findBest_65 ⟨Nat.zero_le _, Nat.zero_le _⟩) hP hD hS hA [0, 1, 2, 3, 4, 5, 6, 7, 8, 9, 10, 11, 12, 13, 14, 15] [] rfl rfl rfl (by decide) [0, 1, 2, 3, 4, 5, 6, 7, 8, 9, 10, 11, 12, 13, 14, 15] rfl (fun _ => rfl) (fun r30 _ H locs hw hP hD hS => ?_)
                refine lv_if_eq (tgt := 75) hx hb dX4_findBest_68 (by decide) (fun c31 => ?_) (fun c31 => ?_)
                · have hw := gq_t c31 hw
                  obtain ⟨v32, ev32⟩ : ∃ y : Int32, y = x3 + 1 := ⟨_, rfl⟩
                  have hw := gq_at1 hw ev32
                  refine lv_iinc (v := v32) (lv' := [(5, .int v32), (6, .int 1), (0, .ref (ad 0)), (1, .int p1), (2, .int p2), (3, .int r1), (4, .int x2)]) hx hb dX4_findBest_75 hl (k := 6) rfl (by rw [ev32]; rfl) (by decide) rfl (fun ls hl => ?_)
                  refine lv_goto (tgt := 11) hx hb dX4_findBest_78 (by decide) ?_
                  exact ih x2 v32 _ _ hw hP hD hS ls (lv_sub hl [2, 3, 4, 5, 6, 0] rfl)
                · have hw := gq_f c31 hw
                  refine lv_iload hx hb dX4_findBest_71 (lv_at hl 6 rfl) ?_
                  refine lv_istore (lv' := [(4, .int x3), (6, .int 1), (0, .ref (ad 0)), (1, .int p1), (2, .int p2), (3, .int r1), (5, .int x3)]) hx hb dX4_findBest_73 hl (by decide) rfl (fun ls hl => ?_)
                  obtain ⟨v33, ev33⟩ : ∃ y : Int32, y = x3 + 1 := ⟨_, rfl⟩
                  have hw := gq_at1 hw ev33
                  refine lv_iinc (v := v33) (lv' := [(5, .int v33), (4, .int x3), (6, .int 1), (0, .ref (ad 0)), (1, .int p1), (2, .int p2), (3, .int r1)]) hx hb dX4_findBest_75 hl (k := 6) rfl (by rw [ev33]; rfl) (by decide) rfl (fun ls hl => ?_)
                  refine lv_goto (tgt := 11) hx hb dX4_findBest_78 (by decide) ?_
                  exact ih x3 v33 _ _ hw hP hD hS ls (lv_sub hl [3, 4, 5, 6, 1, 0] rfl)
  obtain ⟨n, hw⟩ := hw
  exact hL11 n 0 1 _ _ hw hP hD hS ls (lv_sub hl [3, 4, 5, 2, 1, 0] rfl)

def wp_X4_best (p1 : Int32) (p2 : Int32) (p3 : Int32) (Pd : Nat → Int32) (Ps : Int32) (Pg : Int32) (Pj : Int32) (Bt : Nat → Int32) (Bi : Nat → Int32) (Bf : Int32) (Br : Int32) (Ra : Nat → Int32) (Wk : Nat → Int32) (We : Int32) (post : Int32 → (Nat → Int32) → (Nat → Int32) → Int32 → Int32 → Prop) : Prop :=
  (if p1 < 0 then post (-1) Bt Bi Bf Br else (if 9 < p1 then post (-1) Bt Bi Bf Br else (if p2 < 0 then post (-1) Bt Bi Bf Br else wp_X4_bookNow Pd Ps Pg Pj Bt Bi Bf Br (fun (Bt_4 : Nat → Int32) (Bi_5 : Nat → Int32) (Bf_6 : Int32) (Br_7 : Int32) => wp_X3_count Bf_6 (fun (r8 : Int32) => (if r8 = (-1) then post (-1) Bt_4 Bi_5 Bf_6 Br_7 else wp_X4_findBest p1 p2 Ps Pg Pj Bi_5 Bf_6 Ra Wk We (fun (r10 : Int32) => (if p3 = 0 then wp_X3_countTouchedBy r10 Bi_5 Bf_6 (fun (r11 : Int32) => post r11 Bt_4 Bi_5 Bf_6 Br_7) else (if p3 = 1 then post r10 Bt_4 Bi_5 Bf_6 Br_7 else (if p3 = 2 then wp_X1_touchesOf r10 Ra (fun (r12 : Int32) => post r12 Bt_4 Bi_5 Bf_6 Br_7) else post (-1) Bt_4 Bi_5 Bf_6 Br_7))))))))))

theorem iX4_best_X4 : ∀ w ∈ wsX40, w ∈ wsX4_best := by decide +kernel
set_option maxHeartbeats 4000000 in
set_option maxRecDepth 100000 in
theorem c_X4_best (l : Launch) (D : va_G) (ad : Nat → Nat) (ck : Nat → ClassId) (sz : Nat) (Pd : Nat → Int32) (Pm : Nat → Int32) (Ps : Int32) (Pg : Int32) (Pj : Int32) (Bt : Nat → Int32) (Bi : Nat → Int32) (Bf : Int32) (Br : Int32) (Rt : Nat → Int32) (Rl : Nat → Int32) (Rr : Nat → Int32) (Ra : Nat → Int32) (Wt : Nat → Int32) (Wa : Nat → Int32) (Wk : Nat → Int32) (Wd : Int32) (Wn : Int32) (We : Int32) (Wb : Int32) (Hv : Int32) (p1 : Int32) (p2 : Int32) (p3 : Int32) (post : Int32 → (Nat → Int32) → (Nat → Int32) → Int32 → Int32 → Prop) (hw : wp_X4_best p1 p2 p3 Pd Ps Pg Pj Bt Bi Bf Br Ra Wk We post) : Met l yX4_best wsX4_best { frames := 11, cells := 0, slots := 0, locals := 280 } (va_Pc [.ref (ad 0), .int p1, .int p2, .int p3] (gq_pre D (tyH ck) (wdH ad ck Pd Pm Ps Pg Pj Bt Bi Bf Br Rt Rl Rr Ra Wt Wa Wk Wd Wn We Wb Hv) sz)) (va_Qi (fun (r : Int32) (u : (Nat → Int32) × (Nat → Int32) × Int32 × Int32) => post r u.1 u.2.1 u.2.2.1 u.2.2.2) (gq_at D (va_A (wdH ad ck Pd Pm Ps Pg Pj Bt Bi Bf Br Rt Rl Rr Ra Wt Wa Wk Wd Wn We Wb Hv) sz) (fun (u : (Nat → Int32) × (Nat → Int32) × Int32 × Int32) => (wdH ad ck Pd Pm Ps Pg Pj u.1 u.2.1 u.2.2.1 u.2.2.2 Rt Rl Rr Ra Wt Wa Wk Wd Wn We Wb Hv))) (va_A (wdH ad ck Pd Pm Ps Pg Pj Bt Bi Bf Br Rt Rl Rr Ra Wt Wa Wk Wd Wn We Wb Hv) sz)) 0 0 (va_A (wdH ad ck Pd Pm Ps Pg Pj Bt Bi Bf Br Rt Rl Rr Ra Wt Wa Wk Wd Wn We Wb Hv) sz) := by
  refine gq_meti (cc := cX4_best) (maxL := 5) (lv := [(0, .ref (ad 0)), (1, .int p1), (2, .int p2), (3, .int p3)]) (by decide) rfl (Nat.le_of_ble_eq_true rfl) rfl ?_
  intro p e s m below meth c A Q ls H locs hx hb hml hown hts hnw hA hK hP hD hS hl hz
  refine lv_iload_n hx hb dX4_best_0 rfl (lv_at hl 1 rfl) ?_
  refine lv_if_lt (tgt := 25) hx hb dX4_best_1 (by decide) (fun c1 => ?_) (fun c1 => ?_)
  · have hw := gq_t c1 hw
    refine lv_iconst (v := (-1)) hx hb dX4_best_25 (by decide) ?_
    exact hz (-1) (Bt, Bi, Bf, Br) _ _ _ _ dX4_best_26 hw hP hD hS
  · have hw := gq_f c1 hw
    refine lv_iload_n hx hb dX4_best_4 rfl (lv_at hl 1 rfl) ?_
    refine lv_bipush (v := 9) hx hb dX4_best_5 (by decide) ?_
    refine lv_icmp_gt (tgt := 25) hx hb dX4_best_7 (by decide) (fun c2 => ?_) (fun c2 => ?_)
    · have hw := gq_t c2 hw
      refine lv_iconst (v := (-1)) hx hb dX4_best_25 (by decide) ?_
      exact hz (-1) (Bt, Bi, Bf, Br) _ _ _ _ dX4_best_26 hw hP hD hS
    · have hw := gq_f c2 hw
      refine lv_iload_n hx hb dX4_best_10 rfl (lv_at hl 2 rfl) ?_
      refine lv_if_lt (tgt := 25) hx hb dX4_best_11 (by decide) (fun c3 => ?_) (fun c3 => ?_)
      · have hw := gq_t c3 hw
        refine lv_iconst (v := (-1)) hx hb dX4_best_25 (by decide) ?_
        exact hz (-1) (Bt, Bi, Bf, Br) _ _ _ _ dX4_best_26 hw hP hD hS
      · have hw := gq_f c3 hw
        refine lv_aload_n hx hb dX4_best_14 rfl (lv_at hl 0 rfl) ?_
        refine gq_callr (wsN := fun u => (wdH ad ck Pd Pm Ps Pg Pj u.1 u.2.1 u.2.2.1 u.2.2.2 Rt Rl Rr Ra Wt Wa Wk Wd Wn We Wb Hv)) (va_runV (As := []) (rest := []) ⟨hx, hb, hml, hown, hts⟩ (c_X4_bookNow l D ad ck H.size Pd Pm Ps Pg Pj Bt Bi Bf Br Rt Rl Rr Ra Wt Wa Wk Wd Wn We Wb Hv  _ hw) (cwV 0 hts gX4_best_X4_bookNow rfl rfl rfl (by decide +kernel) ⟨Nat.le_of_ble_eq_true rfl, Nat.le_of_ble_eq_true rfl⟩) (gq_preV hK [0, 1, 2, 3, 4, 5, 6, 7, 8, 9, 10] rfl hP hD [0, 1, 2, 3, 4, 5, 6, 7, 8, 9, 10, 11, 12, 13, 14, 15] rfl rfl hnw 4 0 rfl rfl) rfl rfl hl.1 rfl (lv_room (Nat.le_of_ble_eq_true rfl)) dX4_best_15 ⟨Nat.zero_le _, Nat.zero_le _⟩) hP hD hS hA [0, 1, 2, 3, 4, 5, 6, 7, 8, 9, 10, 11, 12, 13, 14, 15] [] rfl rfl rfl (by decide) [0, 1, 2, 3, 4, 5, 6, 7, 8, 9, 10, 11, 12, 13, 14, 15] rfl (fun _ => rfl) (fun u_ H locs hw hP hD hS => ?_)
        obtain ⟨Bt_4, Bi_5, Bf_6, Br_7⟩ := u_
        have hP : va_P D vwCl (wdH ad ck Pd Pm Ps Pg Pj Bt_4 Bi_5 Bf_6 Br_7 Rt Rl Rr Ra Wt Wa Wk Wd Wn We Wb Hv) H := hP
        have hD : va_D A (wdH ad ck Pd Pm Ps Pg Pj Bt_4 Bi_5 Bf_6 Br_7 Rt Rl Rr Ra Wt Wa Wk Wd Wn We Wb Hv) := hD
        refine gq_calli (wsN := fun _ => (wdH ad ck Pd Pm Ps Pg Pj Bt_4 Bi_5 Bf_6 Br_7 Rt Rl Rr Ra Wt Wa Wk Wd Wn We Wb Hv)) (va_runV (As := []) (rest := []) ⟨hx, hb, hml, hown, hts⟩ (c_X3_count l D ad ck H.size Bt_4 Bi_5 Bf_6 Br_7  _ hw) (cwV 0 hts gX4_best_X3_count rfl rfl rfl (by decide +kernel) ⟨Nat.le_of_ble_eq_true rfl, Nat.le_of_ble_eq_true rfl⟩) (gq_preV hK [2, 3] rfl hP hD [4, 5, 6] rfl rfl hnw 3 0 rfl rfl) rfl rfl hl.1 rfl (lv_room (Nat.le_of_ble_eq_true rfl)) dX4_best_18 ⟨Nat.zero_le _, Nat.zero_le _⟩) hP hD hS hA [4, 5, 6] [0, 1, 2, 3, 7, 8, 9, 10, 11, 12, 13, 14, 15] rfl rfl rfl (by decide) [0, 1, 2, 3, 13, 14, 15, 4, 5, 6, 7, 8, 9, 10, 11, 12] rfl (fun _ => rfl) (fun r8 _ H locs hw hP hD hS => ?_)
        refine lv_iconst (v := (-1)) hx hb dX4_best_21 (by decide) ?_
        refine lv_icmp_ne (tgt := 27) hx hb dX4_best_22 (by decide) (fun c9 => ?_) (fun c9 => ?_)
        · have hw := gq_f c9 hw
          refine lv_aload_n hx hb dX4_best_27 rfl (lv_at hl 0 rfl) ?_
          refine lv_iload_n hx hb dX4_best_28 rfl (lv_at hl 1 rfl) ?_
          refine lv_iload_n hx hb dX4_best_29 rfl (lv_at hl 2 rfl) ?_
          refine gq_calli (wsN := fun _ => (wdH ad ck Pd Pm Ps Pg Pj Bt_4 Bi_5 Bf_6 Br_7 Rt Rl Rr Ra Wt Wa Wk Wd Wn We Wb Hv)) (va_runV (As := [.int p1, .int p2]) (rest := []) ⟨hx, hb, hml, hown, hts⟩ (c_X4_findBest l D ad ck H.size Pd Pm Ps Pg Pj Bt_4 Bi_5 Bf_6 Br_7 Rt Rl Rr Ra Wt Wa Wk Wd Wn We Wb Hv p1 p2 _ hw) (cwV 2 hts gX4_best_X4_findBest rfl rfl rfl (by decide +kernel) ⟨Nat.le_of_ble_eq_true rfl, Nat.le_of_ble_eq_true rfl⟩) (gq_preV hK [0, 1, 2, 3, 4, 5, 6, 7, 8, 9, 10] rfl hP hD [0, 1, 2, 3, 4, 5, 6, 7, 8, 9, 10, 11, 12, 13, 14, 15] rfl rfl hnw 4 0 rfl rfl) rfl rfl hl.1 rfl (lv_room (Nat.le_of_ble_eq_true rfl)) dX4_best_30 ⟨Nat.zero_le _, Nat.zero_le _⟩) hP hD hS hA [0, 1, 2, 3, 4, 5, 6, 7, 8, 9, 10, 11, 12, 13, 14, 15] [] rfl rfl rfl (by decide) [0, 1, 2, 3, 4, 5, 6, 7, 8, 9, 10, 11, 12, 13, 14, 15] rfl (fun _ => rfl) (fun r10 _ H locs hw hP hD hS => ?_)
          refine lv_istore (lv' := [(4, .int r10), (0, .ref (ad 0)), (1, .int p1), (2, .int p2), (3, .int p3)]) hx hb dX4_best_33 hl (by decide) rfl (fun ls hl => ?_)
          refine lv_iload_n hx hb dX4_best_35 rfl (lv_at hl 4 rfl) ?_
          rcases Decidable.em (p3 = 0) with cs36_0 | cs36_0
          · have hw := gq_t cs36_0 hw
            refine lv_tableIn (off := 28) (tgt := 64) hx hb dX4_best_36 (by rw [cs36_0]; decide) (by rw [cs36_0]; decide) (by rw [cs36_0]; decide) (by decide) ?_
            refine lv_aload_n hx hb dX4_best_64 rfl (lv_at hl 1 rfl) ?_
            refine va_get (D := D) (ci := 4) (v := .ref (ad 4)) (C := RX4) (T := TX4) (N := 5) hx hb hts iX4_best_X4 hown hK hP 0 rfl rfl 1 (by decide) (hts (.fieldLink RX4 19 "DecoyHouse" "book" "LDecoyHouse$WayBook;") (by decide +kernel)) (fun _ h9 => h9) rfl dX4_best_65 ?_
            refine lv_iload hx hb dX4_best_68 (lv_at hl 0 rfl) ?_
            refine gq_calli (wsN := fun _ => (wdH ad ck Pd Pm Ps Pg Pj Bt_4 Bi_5 Bf_6 Br_7 Rt Rl Rr Ra Wt Wa Wk Wd Wn We Wb Hv)) (va_runV (As := [.int r10]) (rest := []) ⟨hx, hb, hml, hown, hts⟩ (c_X3_countTouchedBy l D ad ck H.size Bt_4 Bi_5 Bf_6 Br_7 r10 _ hw) (cwV 1 hts gX4_best_X3_countTouchedBy rfl rfl rfl (by decide +kernel) ⟨Nat.le_of_ble_eq_true rfl, Nat.le_of_ble_eq_true rfl⟩) (gq_preV hK [2, 3] rfl hP hD [4, 5, 6] rfl rfl hnw 3 0 rfl rfl) rfl rfl hl.1 rfl (lv_room (Nat.le_of_ble_eq_true rfl)) dX4_best_70 ⟨Nat.zero_le _, Nat.zero_le _⟩) hP hD hS hA [4, 5, 6] [0, 1, 2, 3, 7, 8, 9, 10, 11, 12, 13, 14, 15] rfl rfl rfl (by decide) [0, 1, 2, 3, 13, 14, 15, 4, 5, 6, 7, 8, 9, 10, 11, 12] rfl (fun _ => rfl) (fun r11 _ H locs hw hP hD hS => ?_)
            exact hz r11 (Bt_4, Bi_5, Bf_6, Br_7) _ _ _ _ dX4_best_73 hw hP hD hS
          · have hw := gq_f cs36_0 hw
            rcases Decidable.em (p3 = 1) with cs36_1 | cs36_1
            · have hw := gq_t cs36_1 hw
              refine lv_tableIn (off := 38) (tgt := 74) hx hb dX4_best_36 (by rw [cs36_1]; decide) (by rw [cs36_1]; decide) (by rw [cs36_1]; decide) (by decide) ?_
              refine lv_iload hx hb dX4_best_74 (lv_at hl 0 rfl) ?_
              exact hz r10 (Bt_4, Bi_5, Bf_6, Br_7) _ _ _ _ dX4_best_76 hw hP hD hS
            · have hw := gq_f cs36_1 hw
              rcases Decidable.em (p3 = 2) with cs36_2 | cs36_2
              · have hw := gq_t cs36_2 hw
                refine lv_tableIn (off := 41) (tgt := 77) hx hb dX4_best_36 (by rw [cs36_2]; decide) (by rw [cs36_2]; decide) (by rw [cs36_2]; decide) (by decide) ?_
                refine lv_aload_n hx hb dX4_best_77 rfl (lv_at hl 1 rfl) ?_
                refine va_get (D := D) (ci := 4) (v := .ref (ad 7)) (C := RX4) (T := TX4) (N := 5) hx hb hts iX4_best_X4 hown hK hP 0 rfl rfl 2 (by decide) (hts (.fieldLink RX4 26 "DecoyHouse" "rounds" "LDecoyHouse$Rounds;") (by decide +kernel)) (fun _ h9 => h9) rfl dX4_best_78 ?_
                refine lv_iload hx hb dX4_best_81 (lv_at hl 0 rfl) ?_
                refine gq_calli (wsN := fun _ => (wdH ad ck Pd Pm Ps Pg Pj Bt_4 Bi_5 Bf_6 Br_7 Rt Rl Rr Ra Wt Wa Wk Wd Wn We Wb Hv)) (va_runV (As := [.int r10]) (rest := []) ⟨hx, hb, hml, hown, hts⟩ (c_X1_touchesOf l D ad ck H.size Rt Rl Rr Ra r10 _ hw) (cwV 1 hts gX4_best_X1_touchesOf rfl rfl rfl (by decide +kernel) ⟨Nat.le_of_ble_eq_true rfl, Nat.le_of_ble_eq_true rfl⟩) (gq_preV hK [4, 5, 6, 7] rfl hP hD [7, 8, 9, 10, 11] rfl rfl hnw 1 0 rfl rfl) rfl rfl hl.1 rfl (lv_room (Nat.le_of_ble_eq_true rfl)) dX4_best_83 ⟨Nat.zero_le _, Nat.zero_le _⟩) hP hD hS hA [7, 8, 9, 10, 11] [0, 1, 2, 3, 4, 5, 6, 12, 13, 14, 15] rfl rfl rfl (by decide) [0, 1, 2, 3, 4, 5, 6, 11, 12, 13, 14, 15, 7, 8, 9, 10] rfl (fun _ => rfl) (fun r12 _ H locs hw hP hD hS => ?_)
                exact hz r12 (Bt_4, Bi_5, Bf_6, Br_7) _ _ _ _ dX4_best_86 hw hP hD hS
              · have hw := gq_f cs36_2 hw
                refine lv_tableOut (tgt := 87) hx hb dX4_best_36 (gq_out 3 (fun k hk => by match k, hk with | 0, _ => exact cs36_0 | 1, _ => exact cs36_1 | 2, _ => exact cs36_2 | k + 3, hk => omega)) (by decide) ?_
                refine lv_iconst (v := (-1)) hx hb dX4_best_87 (by decide) ?_
                exact hz (-1) (Bt_4, Bi_5, Bf_6, Br_7) _ _ _ _ dX4_best_88 hw hP hD hS
        · have hw := gq_t c9 hw
          refine lv_iconst (v := (-1)) hx hb dX4_best_25 (by decide) ?_
          exact hz (-1) (Bt_4, Bi_5, Bf_6, Br_7) _ _ _ _ dX4_best_26 hw hP hD hS

def wp_X4_cover  (Pd : Nat → Int32) (Ps : Int32) (Pg : Int32) (Pj : Int32) (Bt : Nat → Int32) (Bi : Nat → Int32) (Bf : Int32) (Br : Int32) (Ra : Nat → Int32) (Wk : Nat → Int32) (We : Int32) (post : Int32 → (Nat → Int32) → (Nat → Int32) → Int32 → Int32 → Prop) : Prop :=
  wp_X4_bookNow Pd Ps Pg Pj Bt Bi Bf Br (fun (Bt_1 : Nat → Int32) (Bi_2 : Nat → Int32) (Bf_3 : Int32) (Br_4 : Int32) => wp_X3_count Bf_3 (fun (r5 : Int32) => (if r5 = (-1) then post (-1) Bt_1 Bi_2 Bf_3 Br_4 else wp_X4_findBest 9 4752 Ps Pg Pj Bi_2 Bf_3 Ra Wk We (fun (r7 : Int32) => wp_X3_countTouchedBy r7 Bi_2 Bf_3 (fun (r8 : Int32) => (if r8 = r5 then post r7 Bt_1 Bi_2 Bf_3 Br_4 else post (-1) Bt_1 Bi_2 Bf_3 Br_4))))))

theorem iX4_cover_X4 : ∀ w ∈ wsX40, w ∈ wsX4_cover := by decide +kernel
set_option maxHeartbeats 4000000 in
set_option maxRecDepth 100000 in
theorem c_X4_cover (l : Launch) (D : va_G) (ad : Nat → Nat) (ck : Nat → ClassId) (sz : Nat) (Pd : Nat → Int32) (Pm : Nat → Int32) (Ps : Int32) (Pg : Int32) (Pj : Int32) (Bt : Nat → Int32) (Bi : Nat → Int32) (Bf : Int32) (Br : Int32) (Rt : Nat → Int32) (Rl : Nat → Int32) (Rr : Nat → Int32) (Ra : Nat → Int32) (Wt : Nat → Int32) (Wa : Nat → Int32) (Wk : Nat → Int32) (Wd : Int32) (Wn : Int32) (We : Int32) (Wb : Int32) (Hv : Int32)  (post : Int32 → (Nat → Int32) → (Nat → Int32) → Int32 → Int32 → Prop) (hw : wp_X4_cover Pd Ps Pg Pj Bt Bi Bf Br Ra Wk We post) : Met l yX4_cover wsX4_cover { frames := 11, cells := 0, slots := 0, locals := 280 } (va_Pc [.ref (ad 0)] (gq_pre D (tyH ck) (wdH ad ck Pd Pm Ps Pg Pj Bt Bi Bf Br Rt Rl Rr Ra Wt Wa Wk Wd Wn We Wb Hv) sz)) (va_Qi (fun (r : Int32) (u : (Nat → Int32) × (Nat → Int32) × Int32 × Int32) => post r u.1 u.2.1 u.2.2.1 u.2.2.2) (gq_at D (va_A (wdH ad ck Pd Pm Ps Pg Pj Bt Bi Bf Br Rt Rl Rr Ra Wt Wa Wk Wd Wn We Wb Hv) sz) (fun (u : (Nat → Int32) × (Nat → Int32) × Int32 × Int32) => (wdH ad ck Pd Pm Ps Pg Pj u.1 u.2.1 u.2.2.1 u.2.2.2 Rt Rl Rr Ra Wt Wa Wk Wd Wn We Wb Hv))) (va_A (wdH ad ck Pd Pm Ps Pg Pj Bt Bi Bf Br Rt Rl Rr Ra Wt Wa Wk Wd Wn We Wb Hv) sz)) 0 0 (va_A (wdH ad ck Pd Pm Ps Pg Pj Bt Bi Bf Br Rt Rl Rr Ra Wt Wa Wk Wd Wn We Wb Hv) sz) := by
  refine gq_meti (cc := cX4_cover) (maxL := 3) (lv := [(0, .ref (ad 0))]) (by decide) rfl (Nat.le_of_ble_eq_true rfl) rfl ?_
  intro p e s m below meth c A Q ls H locs hx hb hml hown hts hnw hA hK hP hD hS hl hz
  refine lv_aload_n hx hb dX4_cover_0 rfl (lv_at hl 0 rfl) ?_
  refine gq_callr (wsN := fun u => (wdH ad ck Pd Pm Ps Pg Pj u.1 u.2.1 u.2.2.1 u.2.2.2 Rt Rl Rr Ra Wt Wa Wk Wd Wn We Wb Hv)) (va_runV (As := []) (rest := []) ⟨hx, hb, hml, hown, hts⟩ (c_X4_bookNow l D ad ck H.size Pd Pm Ps Pg Pj Bt Bi Bf Br Rt Rl Rr Ra Wt Wa Wk Wd Wn We Wb Hv  _ hw) (cwV 0 hts gX4_cover_X4_bookNow rfl rfl rfl (by decide +kernel) ⟨Nat.le_of_ble_eq_true rfl, Nat.le_of_ble_eq_true rfl⟩) (gq_preV hK [0, 1, 2, 3, 4, 5, 6, 7, 8, 9, 10] rfl hP hD [0, 1, 2, 3, 4, 5, 6, 7, 8, 9, 10, 11, 12, 13, 14, 15] rfl rfl hnw 4 0 rfl rfl) rfl rfl hl.1 rfl (lv_room (Nat.le_of_ble_eq_true rfl)) dX4_cover_1 ⟨Nat.zero_le _, Nat.zero_le _⟩) hP hD hS hA [0, 1, 2, 3, 4, 5, 6, 7, 8, 9, 10, 11, 12, 13, 14, 15] [] rfl rfl rfl (by decide) [0, 1, 2, 3, 4, 5, 6, 7, 8, 9, 10, 11, 12, 13, 14, 15] rfl (fun _ => rfl) (fun u_ H locs hw hP hD hS => ?_)
  obtain ⟨Bt_1, Bi_2, Bf_3, Br_4⟩ := u_
  have hP : va_P D vwCl (wdH ad ck Pd Pm Ps Pg Pj Bt_1 Bi_2 Bf_3 Br_4 Rt Rl Rr Ra Wt Wa Wk Wd Wn We Wb Hv) H := hP
  have hD : va_D A (wdH ad ck Pd Pm Ps Pg Pj Bt_1 Bi_2 Bf_3 Br_4 Rt Rl Rr Ra Wt Wa Wk Wd Wn We Wb Hv) := hD
  refine gq_calli (wsN := fun _ => (wdH ad ck Pd Pm Ps Pg Pj Bt_1 Bi_2 Bf_3 Br_4 Rt Rl Rr Ra Wt Wa Wk Wd Wn We Wb Hv)) (va_runV (As := []) (rest := []) ⟨hx, hb, hml, hown, hts⟩ (c_X3_count l D ad ck H.size Bt_1 Bi_2 Bf_3 Br_4  _ hw) (cwV 0 hts gX4_cover_X3_count rfl rfl rfl (by decide +kernel) ⟨Nat.le_of_ble_eq_true rfl, Nat.le_of_ble_eq_true rfl⟩) (gq_preV hK [2, 3] rfl hP hD [4, 5, 6] rfl rfl hnw 3 0 rfl rfl) rfl rfl hl.1 rfl (lv_room (Nat.le_of_ble_eq_true rfl)) dX4_cover_4 ⟨Nat.zero_le _, Nat.zero_le _⟩) hP hD hS hA [4, 5, 6] [0, 1, 2, 3, 7, 8, 9, 10, 11, 12, 13, 14, 15] rfl rfl rfl (by decide) [0, 1, 2, 3, 13, 14, 15, 4, 5, 6, 7, 8, 9, 10, 11, 12] rfl (fun _ => rfl) (fun r5 _ H locs hw hP hD hS => ?_)
  refine lv_istore_n (lv' := [(1, .int r5), (0, .ref (ad 0))]) hx hb dX4_cover_7 rfl hl (by decide) rfl (fun ls hl => ?_)
  refine lv_iload_n hx hb dX4_cover_8 rfl (lv_at hl 0 rfl) ?_
  refine lv_iconst (v := (-1)) hx hb dX4_cover_9 (by decide) ?_
  refine lv_icmp_ne (tgt := 15) hx hb dX4_cover_10 (by decide) (fun c6 => ?_) (fun c6 => ?_)
  · have hw := gq_f c6 hw
    refine lv_aload_n hx hb dX4_cover_15 rfl (lv_at hl 1 rfl) ?_
    refine lv_bipush (v := 9) hx hb dX4_cover_16 (by decide) ?_
    refine lv_sipush (v := 4752) hx hb dX4_cover_18 (by decide) ?_
    refine gq_calli (wsN := fun _ => (wdH ad ck Pd Pm Ps Pg Pj Bt_1 Bi_2 Bf_3 Br_4 Rt Rl Rr Ra Wt Wa Wk Wd Wn We Wb Hv)) (va_runV (As := [.int 9, .int 4752]) (rest := []) ⟨hx, hb, hml, hown, hts⟩ (c_X4_findBest l D ad ck H.size Pd Pm Ps Pg Pj Bt_1 Bi_2 Bf_3 Br_4 Rt Rl Rr Ra Wt Wa Wk Wd Wn We Wb Hv 9 4752 _ hw) (cwV 2 hts gX4_cover_X4_findBest rfl rfl rfl (by decide +kernel) ⟨Nat.le_of_ble_eq_true rfl, Nat.le_of_ble_eq_true rfl⟩) (gq_preV hK [0, 1, 2, 3, 4, 5, 6, 7, 8, 9, 10] rfl hP hD [0, 1, 2, 3, 4, 5, 6, 7, 8, 9, 10, 11, 12, 13, 14, 15] rfl rfl hnw 4 0 rfl rfl) rfl rfl hl.1 rfl (lv_room (Nat.le_of_ble_eq_true rfl)) dX4_cover_21 ⟨Nat.zero_le _, Nat.zero_le _⟩) hP hD hS hA [0, 1, 2, 3, 4, 5, 6, 7, 8, 9, 10, 11, 12, 13, 14, 15] [] rfl rfl rfl (by decide) [0, 1, 2, 3, 4, 5, 6, 7, 8, 9, 10, 11, 12, 13, 14, 15] rfl (fun _ => rfl) (fun r7 _ H locs hw hP hD hS => ?_)
    refine lv_istore_n (lv' := [(2, .int r7), (1, .int r5), (0, .ref (ad 0))]) hx hb dX4_cover_24 rfl hl (by decide) rfl (fun ls hl => ?_)
    refine lv_aload_n hx hb dX4_cover_25 rfl (lv_at hl 2 rfl) ?_
    refine va_get (D := D) (ci := 4) (v := .ref (ad 4)) (C := RX4) (T := TX4) (N := 5) hx hb hts iX4_cover_X4 hown hK hP 0 rfl rfl 1 (by decide) (hts (.fieldLink RX4 19 "DecoyHouse" "book" "LDecoyHouse$WayBook;") (by decide +kernel)) (fun _ h9 => h9) rfl dX4_cover_26 ?_
    refine lv_iload_n hx hb dX4_cover_29 rfl (lv_at hl 0 rfl) ?_
    refine gq_calli (wsN := fun _ => (wdH ad ck Pd Pm Ps Pg Pj Bt_1 Bi_2 Bf_3 Br_4 Rt Rl Rr Ra Wt Wa Wk Wd Wn We Wb Hv)) (va_runV (As := [.int r7]) (rest := []) ⟨hx, hb, hml, hown, hts⟩ (c_X3_countTouchedBy l D ad ck H.size Bt_1 Bi_2 Bf_3 Br_4 r7 _ hw) (cwV 1 hts gX4_cover_X3_countTouchedBy rfl rfl rfl (by decide +kernel) ⟨Nat.le_of_ble_eq_true rfl, Nat.le_of_ble_eq_true rfl⟩) (gq_preV hK [2, 3] rfl hP hD [4, 5, 6] rfl rfl hnw 3 0 rfl rfl) rfl rfl hl.1 rfl (lv_room (Nat.le_of_ble_eq_true rfl)) dX4_cover_30 ⟨Nat.zero_le _, Nat.zero_le _⟩) hP hD hS hA [4, 5, 6] [0, 1, 2, 3, 7, 8, 9, 10, 11, 12, 13, 14, 15] rfl rfl rfl (by decide) [0, 1, 2, 3, 13, 14, 15, 4, 5, 6, 7, 8, 9, 10, 11, 12] rfl (fun _ => rfl) (fun r8 _ H locs hw hP hD hS => ?_)
    refine lv_iload_n hx hb dX4_cover_33 rfl (lv_at hl 1 rfl) ?_
    refine lv_icmp_ne (tgt := 41) hx hb dX4_cover_34 (by decide) (fun c9 => ?_) (fun c9 => ?_)
    · have hw := gq_f c9 hw
      refine lv_iconst (v := (-1)) hx hb dX4_cover_41 (by decide) ?_
      exact hz (-1) (Bt_1, Bi_2, Bf_3, Br_4) _ _ _ _ dX4_cover_42 hw hP hD hS
    · have hw := gq_t c9 hw
      refine lv_iload_n hx hb dX4_cover_37 rfl (lv_at hl 0 rfl) ?_
      refine lv_goto (tgt := 42) hx hb dX4_cover_38 (by decide) ?_
      exact hz r7 (Bt_1, Bi_2, Bf_3, Br_4) _ _ _ _ dX4_cover_42 hw hP hD hS
  · have hw := gq_t c6 hw
    refine lv_iconst (v := (-1)) hx hb dX4_cover_13 (by decide) ?_
    exact hz (-1) (Bt_1, Bi_2, Bf_3, Br_4) _ _ _ _ dX4_cover_14 hw hP hD hS

def wp_X4_lay (p1 : Int32) (Ps : Int32) (Pg : Int32) (Pj : Int32) (Wa : Nat → Int32) (Wk : Nat → Int32) (Wd : Int32) (Wn : Int32) (We : Int32) (post : Int32 → (Nat → Int32) → Int32 → Int32 → Prop) : Prop :=
  wp_X0_hasSet p1 Ps (fun (r1 : Int32) => (if r1 = 0 then post 0 Wa Wd Wn else wp_X4_layableSet Ps Pg Pj Wk We (fun (r3 : Int32) => (if (p1 &&& (r3 ^^^ (-1))) = 0 then wp_X2_layDecoys p1 Wa Wd Wn (fun (Wa_5 : Nat → Int32) (Wd_6 : Int32) (Wn_7 : Int32) => post 1 Wa_5 Wd_6 Wn_7) else post 0 Wa Wd Wn))))

theorem iX4_lay_X4 : ∀ w ∈ wsX40, w ∈ wsX4_lay := by decide +kernel
set_option maxHeartbeats 4000000 in
set_option maxRecDepth 100000 in
theorem c_X4_lay (l : Launch) (D : va_G) (ad : Nat → Nat) (ck : Nat → ClassId) (sz : Nat) (Pd : Nat → Int32) (Pm : Nat → Int32) (Ps : Int32) (Pg : Int32) (Pj : Int32) (Bt : Nat → Int32) (Bi : Nat → Int32) (Bf : Int32) (Br : Int32) (Rt : Nat → Int32) (Rl : Nat → Int32) (Rr : Nat → Int32) (Ra : Nat → Int32) (Wt : Nat → Int32) (Wa : Nat → Int32) (Wk : Nat → Int32) (Wd : Int32) (Wn : Int32) (We : Int32) (Wb : Int32) (Hv : Int32) (p1 : Int32) (post : Int32 → (Nat → Int32) → Int32 → Int32 → Prop) (hw : wp_X4_lay p1 Ps Pg Pj Wa Wk Wd Wn We post) : Met l yX4_lay wsX4_lay { frames := 3, cells := 0, slots := 0, locals := 62 } (va_Pc [.ref (ad 0), .int p1] (gq_pre D (tyH ck) (wdH ad ck Pd Pm Ps Pg Pj Bt Bi Bf Br Rt Rl Rr Ra Wt Wa Wk Wd Wn We Wb Hv) sz)) (va_Qi (fun (r : Int32) (u : (Nat → Int32) × Int32 × Int32) => post r u.1 u.2.1 u.2.2) (gq_at D (va_A (wdH ad ck Pd Pm Ps Pg Pj Bt Bi Bf Br Rt Rl Rr Ra Wt Wa Wk Wd Wn We Wb Hv) sz) (fun (u : (Nat → Int32) × Int32 × Int32) => (wdH ad ck Pd Pm Ps Pg Pj Bt Bi Bf Br Rt Rl Rr Ra Wt u.1 Wk u.2.1 u.2.2 We Wb Hv))) (va_A (wdH ad ck Pd Pm Ps Pg Pj Bt Bi Bf Br Rt Rl Rr Ra Wt Wa Wk Wd Wn We Wb Hv) sz)) 0 0 (va_A (wdH ad ck Pd Pm Ps Pg Pj Bt Bi Bf Br Rt Rl Rr Ra Wt Wa Wk Wd Wn We Wb Hv) sz) := by
  refine gq_metz (cc := cX4_lay) (maxL := 2) (lv := [(0, .ref (ad 0)), (1, .int p1)]) (by decide) rfl (Nat.le_of_ble_eq_true rfl) rfl ?_
  intro p e s m below meth c A Q ls H locs hx hb hml hown hts hnw hA hK hP hD hS hl hz
  refine lv_aload_n hx hb dX4_lay_0 rfl (lv_at hl 0 rfl) ?_
  refine va_get (D := D) (ci := 4) (v := .ref (ad 1)) (C := RX4) (T := TX4) (N := 5) hx hb hts iX4_lay_X4 hown hK hP 0 rfl rfl 0 (by decide) (hts (.fieldLink RX4 12 "DecoyHouse" "plan" "LDecoyHouse$Plan;") (by decide +kernel)) (fun _ h9 => h9) rfl dX4_lay_1 ?_
  refine lv_iload_n hx hb dX4_lay_4 rfl (lv_at hl 1 rfl) ?_
  refine gq_calli (wsN := fun _ => (wdH ad ck Pd Pm Ps Pg Pj Bt Bi Bf Br Rt Rl Rr Ra Wt Wa Wk Wd Wn We Wb Hv)) (va_runV (As := [.int p1]) (rest := []) ⟨hx, hb, hml, hown, hts⟩ (c_X0_hasSet l D ad ck H.size Pd Pm Ps Pg Pj p1 _ hw) (cwV 1 hts gX4_lay_X0_hasSet rfl rfl rfl (by decide +kernel) ⟨Nat.le_of_ble_eq_true rfl, Nat.le_of_ble_eq_true rfl⟩) (gq_preV hK [0, 1] rfl hP hD [1, 2, 3] rfl rfl hnw 0 0 rfl rfl) rfl rfl hl.1 rfl (lv_room (Nat.le_of_ble_eq_true rfl)) dX4_lay_5 ⟨Nat.zero_le _, Nat.zero_le _⟩) hP hD hS hA [1, 2, 3] [0, 4, 5, 6, 7, 8, 9, 10, 11, 12, 13, 14, 15] rfl rfl rfl (by decide) [0, 13, 14, 15, 1, 2, 3, 4, 5, 6, 7, 8, 9, 10, 11, 12] rfl (fun _ => rfl) (fun r1 _ H locs hw hP hD hS => ?_)
  refine lv_if_eq (tgt := 22) hx hb dX4_lay_8 (by decide) (fun c2 => ?_) (fun c2 => ?_)
  · have hw := gq_t c2 hw
    refine lv_iconst (v := 0) hx hb dX4_lay_22 (by decide) ?_
    exact hz 0 (Wa, Wd, Wn) _ _ _ _ dX4_lay_23 gq_zb0 hw hP hD hS
  · have hw := gq_f c2 hw
    refine lv_iload_n hx hb dX4_lay_11 rfl (lv_at hl 1 rfl) ?_
    refine lv_aload_n hx hb dX4_lay_12 rfl (lv_at hl 0 rfl) ?_
    refine gq_calli (wsN := fun _ => (wdH ad ck Pd Pm Ps Pg Pj Bt Bi Bf Br Rt Rl Rr Ra Wt Wa Wk Wd Wn We Wb Hv)) (va_runV (As := []) (rest := [.int p1]) ⟨hx, hb, hml, hown, hts⟩ (c_X4_layableSet l D ad ck H.size Pd Pm Ps Pg Pj Bt Bi Bf Br Rt Rl Rr Ra Wt Wa Wk Wd Wn We Wb Hv  _ hw) (cwV 0 hts gX4_lay_X4_layableSet rfl rfl rfl (by decide +kernel) ⟨Nat.le_of_ble_eq_true rfl, Nat.le_of_ble_eq_true rfl⟩) (gq_preV hK [0, 1, 2, 3, 4, 5, 6, 7, 8, 9, 10] rfl hP hD [0, 1, 2, 3, 4, 5, 6, 7, 8, 9, 10, 11, 12, 13, 14, 15] rfl rfl hnw 4 0 rfl rfl) rfl rfl hl.1 rfl (lv_room (Nat.le_of_ble_eq_true rfl)) dX4_lay_13 ⟨Nat.zero_le _, Nat.zero_le _⟩) hP hD hS hA [0, 1, 2, 3, 4, 5, 6, 7, 8, 9, 10, 11, 12, 13, 14, 15] [] rfl rfl rfl (by decide) [0, 1, 2, 3, 4, 5, 6, 7, 8, 9, 10, 11, 12, 13, 14, 15] rfl (fun _ => rfl) (fun r3 _ H locs hw hP hD hS => ?_)
    refine lv_iconst (v := (-1)) hx hb dX4_lay_16 (by decide) ?_
    refine lv_ixor hx hb dX4_lay_17 ?_
    refine lv_iand hx hb dX4_lay_18 ?_
    refine lv_if_eq (tgt := 24) hx hb dX4_lay_19 (by decide) (fun c4 => ?_) (fun c4 => ?_)
    · have hw := gq_t c4 hw
      refine lv_aload_n hx hb dX4_lay_24 rfl (lv_at hl 0 rfl) ?_
      refine va_get (D := D) (ci := 4) (v := .ref (ad 12)) (C := RX4) (T := TX4) (N := 5) hx hb hts iX4_lay_X4 hown hK hP 0 rfl rfl 3 (by decide) (hts (.fieldLink RX4 33 "DecoyHouse" "watch" "LDecoyHouse$Watch;") (by decide +kernel)) (fun _ h9 => h9) rfl dX4_lay_25 ?_
      refine lv_iload_n hx hb dX4_lay_28 rfl (lv_at hl 1 rfl) ?_
      refine gq_callv (wsN := fun u => (wdH ad ck Pd Pm Ps Pg Pj Bt Bi Bf Br Rt Rl Rr Ra Wt u.1 Wk u.2.1 u.2.2 We Wb Hv)) (va_runV (As := [.int p1]) (rest := []) ⟨hx, hb, hml, hown, hts⟩ (c_X2_layDecoys l D ad ck H.size Wt Wa Wk Wd Wn We Wb p1 _ hw) (cwV 1 hts gX4_lay_X2_layDecoys rfl rfl rfl (by decide +kernel) ⟨Nat.le_of_ble_eq_true rfl, Nat.le_of_ble_eq_true rfl⟩) (gq_preV hK [8, 9, 10] rfl hP hD [12, 13, 14, 15] rfl rfl hnw 2 0 rfl rfl) rfl rfl hl.1 rfl (lv_room (Nat.le_of_ble_eq_true rfl)) dX4_lay_29 ⟨Nat.zero_le _, Nat.zero_le _⟩) hP hD hS hA [12, 13, 14, 15] [0, 1, 2, 3, 4, 5, 6, 7, 8, 9, 10, 11] rfl rfl rfl (by decide) [0, 1, 2, 3, 4, 5, 6, 7, 8, 9, 10, 11, 12, 13, 14, 15] rfl (fun _ => rfl) (fun u_ H locs hw hP hD hS => ?_)
      obtain ⟨Wa_5, Wd_6, Wn_7⟩ := u_
      have hP : va_P D vwCl (wdH ad ck Pd Pm Ps Pg Pj Bt Bi Bf Br Rt Rl Rr Ra Wt Wa_5 Wk Wd_6 Wn_7 We Wb Hv) H := hP
      have hD : va_D A (wdH ad ck Pd Pm Ps Pg Pj Bt Bi Bf Br Rt Rl Rr Ra Wt Wa_5 Wk Wd_6 Wn_7 We Wb Hv) := hD
      refine lv_iconst (v := 1) hx hb dX4_lay_32 (by decide) ?_
      exact hz 1 (Wa_5, Wd_6, Wn_7) _ _ _ _ dX4_lay_33 gq_zb1 hw hP hD hS
    · have hw := gq_f c4 hw
      refine lv_iconst (v := 0) hx hb dX4_lay_22 (by decide) ?_
      exact hz 0 (Wa, Wd, Wn) _ _ _ _ dX4_lay_23 gq_zb0 hw hP hD hS

def wl_X4_unlike_34 (p1 : Int32) (Pm : Nat → Int32) (Ps : Int32) (Hv : Int32) (r1 : Int32)   (post : Int32 → Prop) : Nat → Int32 → Int32 → Prop
  | 0, _, _ => False
  | n34 + 1, x6, x7 => wp_X0_size Ps (fun (r8 : Int32) => (if r8 ≤ x7 then post x6 else wp_X4_has r1 x7 (fun (r10 : Int32) => (if r10 = 0 then wp_X0_marks p1 Pm Ps (fun (r13 : Int32) => wp_X0_marks x7 Pm Ps (fun (r14 : Int32) => wp_J6_bitCount_0f7a4 ((r13 ^^^ r14) &&& Hv) (fun (r15 : Int32) => (if x6 = (-1) then gq_nm (x7 + 1) (fun v19 : Int32 => wl_X4_unlike_34 p1 Pm Ps Hv r1 post n34 r15 v19) else gq_nm (if r15 < x6 then r15 else x6) (fun v17 : Int32 => gq_nm (x7 + 1) (fun v18 : Int32 => wl_X4_unlike_34 p1 Pm Ps Hv r1 post n34 v17 v18)))))) else gq_nm (x7 + 1) (fun v12 : Int32 => wl_X4_unlike_34 p1 Pm Ps Hv r1 post n34 x6 v12)))))

def wp_X4_unlike (p1 : Int32) (Pm : Nat → Int32) (Ps : Int32) (Wd : Int32) (Hv : Int32) (post : Int32 → Prop) : Prop :=
  wp_X2_decoySet Wd (fun (r1 : Int32) => wp_X0_hasPlace p1 Ps (fun (r2 : Int32) => (if r2 = 0 then post (-1) else wp_X4_has r1 p1 (fun (r4 : Int32) => (if r4 = 0 then post (-1) else ∃ k34, wl_X4_unlike_34 p1 Pm Ps Hv r1 post k34 (-1) 0)))))

theorem iX4_unlike_X4 : ∀ w ∈ wsX40, w ∈ wsX4_unlike := by decide +kernel
set_option maxHeartbeats 4000000 in
set_option maxRecDepth 100000 in
theorem c_X4_unlike (l : Launch) (D : va_G) (ad : Nat → Nat) (ck : Nat → ClassId) (sz : Nat) (Pd : Nat → Int32) (Pm : Nat → Int32) (Ps : Int32) (Pg : Int32) (Pj : Int32) (Bt : Nat → Int32) (Bi : Nat → Int32) (Bf : Int32) (Br : Int32) (Rt : Nat → Int32) (Rl : Nat → Int32) (Rr : Nat → Int32) (Ra : Nat → Int32) (Wt : Nat → Int32) (Wa : Nat → Int32) (Wk : Nat → Int32) (Wd : Int32) (Wn : Int32) (We : Int32) (Wb : Int32) (Hv : Int32) (p1 : Int32) (post : Int32 → Prop) (hw : wp_X4_unlike p1 Pm Ps Wd Hv post) : Met l yX4_unlike wsX4_unlike { frames := 2, cells := 0, slots := 0, locals := 42 } (va_Pc [.ref (ad 0), .int p1] (gq_pre D (tyH ck) (wdH ad ck Pd Pm Ps Pg Pj Bt Bi Bf Br Rt Rl Rr Ra Wt Wa Wk Wd Wn We Wb Hv) sz)) (va_Qi (fun (r : Int32) (_ : Unit) => post r ) (gq_at D (va_A (wdH ad ck Pd Pm Ps Pg Pj Bt Bi Bf Br Rt Rl Rr Ra Wt Wa Wk Wd Wn We Wb Hv) sz) (fun (_ : Unit) => (wdH ad ck Pd Pm Ps Pg Pj Bt Bi Bf Br Rt Rl Rr Ra Wt Wa Wk Wd Wn We Wb Hv))) (va_A (wdH ad ck Pd Pm Ps Pg Pj Bt Bi Bf Br Rt Rl Rr Ra Wt Wa Wk Wd Wn We Wb Hv) sz)) 0 0 (va_A (wdH ad ck Pd Pm Ps Pg Pj Bt Bi Bf Br Rt Rl Rr Ra Wt Wa Wk Wd Wn We Wb Hv) sz) := by
  refine gq_meti (cc := cX4_unlike) (maxL := 6) (lv := [(0, .ref (ad 0)), (1, .int p1)]) (by decide) rfl (Nat.le_of_ble_eq_true rfl) rfl ?_
  intro p e s m below meth c A Q ls H locs hx hb hml hown hts hnw hA hK hP hD hS hl hz
  refine lv_aload_n hx hb dX4_unlike_0 rfl (lv_at hl 0 rfl) ?_
  refine va_get (D := D) (ci := 4) (v := .ref (ad 12)) (C := RX4) (T := TX4) (N := 5) hx hb hts iX4_unlike_X4 hown hK hP 0 rfl rfl 3 (by decide) (hts (.fieldLink RX4 33 "DecoyHouse" "watch" "LDecoyHouse$Watch;") (by decide +kernel)) (fun _ h9 => h9) rfl dX4_unlike_1 ?_
  refine gq_calli (wsN := fun _ => (wdH ad ck Pd Pm Ps Pg Pj Bt Bi Bf Br Rt Rl Rr Ra Wt Wa Wk Wd Wn We Wb Hv)) (va_runV (As := []) (rest := []) ⟨hx, hb, hml, hown, hts⟩ (c_X2_decoySet l D ad ck H.size Wt Wa Wk Wd Wn We Wb  _ hw) (cwV 0 hts gX4_unlike_X2_decoySet rfl rfl rfl (by decide +kernel) ⟨Nat.le_of_ble_eq_true rfl, Nat.le_of_ble_eq_true rfl⟩) (gq_preV hK [8, 9, 10] rfl hP hD [12, 13, 14, 15] rfl rfl hnw 2 0 rfl rfl) rfl rfl hl.1 rfl (lv_room (Nat.le_of_ble_eq_true rfl)) dX4_unlike_4 ⟨Nat.zero_le _, Nat.zero_le _⟩) hP hD hS hA [12, 13, 14, 15] [0, 1, 2, 3, 4, 5, 6, 7, 8, 9, 10, 11] rfl rfl rfl (by decide) [0, 1, 2, 3, 4, 5, 6, 7, 8, 9, 10, 11, 12, 13, 14, 15] rfl (fun _ => rfl) (fun r1 _ H locs hw hP hD hS => ?_)
  refine lv_istore_n (lv' := [(2, .int r1), (0, .ref (ad 0)), (1, .int p1)]) hx hb dX4_unlike_7 rfl hl (by decide) rfl (fun ls hl => ?_)
  refine lv_aload_n hx hb dX4_unlike_8 rfl (lv_at hl 1 rfl) ?_
  refine va_get (D := D) (ci := 4) (v := .ref (ad 1)) (C := RX4) (T := TX4) (N := 5) hx hb hts iX4_unlike_X4 hown hK hP 0 rfl rfl 0 (by decide) (hts (.fieldLink RX4 12 "DecoyHouse" "plan" "LDecoyHouse$Plan;") (by decide +kernel)) (fun _ h9 => h9) rfl dX4_unlike_9 ?_
  refine lv_iload_n hx hb dX4_unlike_12 rfl (lv_at hl 2 rfl) ?_
  refine gq_calli (wsN := fun _ => (wdH ad ck Pd Pm Ps Pg Pj Bt Bi Bf Br Rt Rl Rr Ra Wt Wa Wk Wd Wn We Wb Hv)) (va_runV (As := [.int p1]) (rest := []) ⟨hx, hb, hml, hown, hts⟩ (c_X0_hasPlace l D ad ck H.size Pd Pm Ps Pg Pj p1 _ hw) (cwV 1 hts gX4_unlike_X0_hasPlace rfl rfl rfl (by decide +kernel) ⟨Nat.le_of_ble_eq_true rfl, Nat.le_of_ble_eq_true rfl⟩) (gq_preV hK [0, 1] rfl hP hD [1, 2, 3] rfl rfl hnw 0 0 rfl rfl) rfl rfl hl.1 rfl (lv_room (Nat.le_of_ble_eq_true rfl)) dX4_unlike_13 ⟨Nat.zero_le _, Nat.zero_le _⟩) hP hD hS hA [1, 2, 3] [0, 4, 5, 6, 7, 8, 9, 10, 11, 12, 13, 14, 15] rfl rfl rfl (by decide) [0, 13, 14, 15, 1, 2, 3, 4, 5, 6, 7, 8, 9, 10, 11, 12] rfl (fun _ => rfl) (fun r2 _ H locs hw hP hD hS => ?_)
  refine lv_if_eq (tgt := 27) hx hb dX4_unlike_16 (by decide) (fun c3 => ?_) (fun c3 => ?_)
  · have hw := gq_t c3 hw
    refine lv_iconst (v := (-1)) hx hb dX4_unlike_27 (by decide) ?_
    exact hz (-1) () _ _ _ _ dX4_unlike_28 hw hP hD hS
  · have hw := gq_f c3 hw
    refine lv_iload_n hx hb dX4_unlike_19 rfl (lv_at hl 0 rfl) ?_
    refine lv_iload_n hx hb dX4_unlike_20 rfl (lv_at hl 2 rfl) ?_
    refine gq_calli (wsN := fun _ => (wdH ad ck Pd Pm Ps Pg Pj Bt Bi Bf Br Rt Rl Rr Ra Wt Wa Wk Wd Wn We Wb Hv)) (va_runS (As := [.int r1, .int p1]) (rest := []) ⟨hx, hb, hml, hown, hts⟩ (c_X4_has l D H.size r1 p1 _ hw) (va_cwS 2 hts gX4_unlike_X4_has rfl rfl rfl (by decide +kernel) ⟨Nat.le_of_ble_eq_true rfl, Nat.le_of_ble_eq_true rfl⟩) (gq_preS hK [] rfl hP hD [] rfl rfl hnw) rfl rfl hl.1 rfl (lv_room (Nat.le_of_ble_eq_true rfl)) dX4_unlike_21 ⟨Nat.zero_le _, Nat.zero_le _⟩) hP hD hS hA [] [0, 1, 2, 3, 4, 5, 6, 7, 8, 9, 10, 11, 12, 13, 14, 15] rfl rfl rfl (by decide) [0, 1, 2, 3, 4, 5, 6, 7, 8, 9, 10, 11, 12, 13, 14, 15] rfl (fun _ => rfl) (fun r4 _ H locs hw hP hD hS => ?_)
    refine lv_if_ne (tgt := 29) hx hb dX4_unlike_24 (by decide) (fun c5 => ?_) (fun c5 => ?_)
    · have hw := gq_f c5 hw
      refine lv_iconst (v := (-1)) hx hb dX4_unlike_29 (by decide) ?_
      refine lv_istore_n (lv' := [(3, .int (-1)), (2, .int r1), (0, .ref (ad 0)), (1, .int p1)]) hx hb dX4_unlike_30 rfl hl (by decide) rfl (fun ls hl => ?_)
      refine lv_iconst (v := 0) hx hb dX4_unlike_31 (by decide) ?_
      refine lv_istore (lv' := [(4, .int 0), (3, .int (-1)), (2, .int r1), (0, .ref (ad 0)), (1, .int p1)]) hx hb dX4_unlike_32 hl (by decide) rfl (fun ls hl => ?_)
      have hL34 : ∀ (n : Nat) (x6 : Int32) (x7 : Int32) (H : Heap) (locs : List Loc), wl_X4_unlike_34 p1 Pm Ps Hv r1 post n x6 x7 → va_P D vwCl (wdH ad ck Pd Pm Ps Pg Pj Bt Bi Bf Br Rt Rl Rr Ra Wt Wa Wk Wd Wn We Wb Hv) H → va_D A (wdH ad ck Pd Pm Ps Pg Pj Bt Bi Bf Br Rt Rl Rr Ra Wt Wa Wk Wd Wn We Wb Hv) → va_S A s.heap H locs → ∀ ls : Array Slot, lv_has ls 6 [(0, .ref (ad 0)), (1, .int p1), (2, .int r1), (3, .int x6), (4, .int x7)] → W p l e { frames := 2, cells := 0, slots := 0, locals := 42 } s m ([.ref (ad 0), .int p1] : List Value).toArray below meth c H locs 0 0 Q (F0 m 34 ls []) := by
        intro n
        induction n with
        | zero =>
          intro x6 x7 H locs hw
          exact hw.elim
        | succ n ih =>
          intro x6 x7 H locs hw hP hD hS ls hl
          refine lv_iload hx hb dX4_unlike_34 (lv_at hl 4 rfl) ?_
          refine lv_aload_n hx hb dX4_unlike_36 rfl (lv_at hl 0 rfl) ?_
          refine va_get (D := D) (ci := 4) (v := .ref (ad 1)) (C := RX4) (T := TX4) (N := 5) hx hb hts iX4_unlike_X4 hown hK hP 0 rfl rfl 0 (by decide) (hts (.fieldLink RX4 12 "DecoyHouse" "plan" "LDecoyHouse$Plan;") (by decide +kernel)) (fun _ h9 => h9) rfl dX4_unlike_37 ?_
          refine gq_calli (wsN := fun _ => (wdH ad ck Pd Pm Ps Pg Pj Bt Bi Bf Br Rt Rl Rr Ra Wt Wa Wk Wd Wn We Wb Hv)) (va_runV (As := []) (rest := [.int x7]) ⟨hx, hb, hml, hown, hts⟩ (c_X0_size l D ad ck H.size Pd Pm Ps Pg Pj  _ hw) (cwV 0 hts gX4_unlike_X0_size rfl rfl rfl (by decide +kernel) ⟨Nat.le_of_ble_eq_true rfl, Nat.le_of_ble_eq_true rfl⟩) (gq_preV hK [0, 1] rfl hP hD [1, 2, 3] rfl rfl hnw 0 0 rfl rfl) rfl rfl hl.1 rfl (lv_room (Nat.le_of_ble_eq_true rfl)) dX4_unlike_40 ⟨Nat.zero_le _, Nat.zero_le _⟩) hP hD hS hA [1, 2, 3] [0, 4, 5, 6, 7, 8, 9, 10, 11, 12, 13, 14, 15] rfl rfl rfl (by decide) [0, 13, 14, 15, 1, 2, 3, 4, 5, 6, 7, 8, 9, 10, 11, 12] rfl (fun _ => rfl) (fun r8 _ H locs hw hP hD hS => ?_)
          refine lv_icmp_ge (tgt := 106) hx hb dX4_unlike_43 (by decide) (fun c9 => ?_) (fun c9 => ?_)
          · have hw := gq_t c9 hw
            refine lv_iload_n hx hb dX4_unlike_106 rfl (lv_at hl 3 rfl) ?_
            exact hz x6 () _ _ _ _ dX4_unlike_107 hw hP hD hS
          · have hw := gq_f c9 hw
            refine lv_iload_n hx hb dX4_unlike_46 rfl (lv_at hl 2 rfl) ?_
            refine lv_iload hx hb dX4_unlike_47 (lv_at hl 4 rfl) ?_
            refine gq_calli (wsN := fun _ => (wdH ad ck Pd Pm Ps Pg Pj Bt Bi Bf Br Rt Rl Rr Ra Wt Wa Wk Wd Wn We Wb Hv)) (va_runS (As := [.int r1, .int x7]) (rest := []) ⟨hx, hb, hml, hown, hts⟩ (c_X4_has l D H.size r1 x7 _ hw) (va_cwS 2 hts gX4_unlike_X4_has rfl rfl rfl (by decide +kernel) ⟨Nat.le_of_ble_eq_true rfl, Nat.le_of_ble_eq_true rfl⟩) (gq_preS hK [] rfl hP hD [] rfl rfl hnw) rfl rfl hl.1 rfl (lv_room (Nat.le_of_ble_eq_true rfl)) dX4_unlike_49 ⟨Nat.zero_le _, Nat.zero_le _⟩) hP hD hS hA [] [0, 1, 2, 3, 4, 5, 6, 7, 8, 9, 10, 11, 12, 13, 14, 15] rfl rfl rfl (by decide) [0, 1, 2, 3, 4, 5, 6, 7, 8, 9, 10, 11, 12, 13, 14, 15] rfl (fun _ => rfl) (fun r10 _ H locs hw hP hD hS => ?_)
            refine lv_if_ne (tgt := 100) hx hb dX4_unlike_52 (by decide) (fun c11 => ?_) (fun c11 => ?_)
            · have hw := gq_f c11 hw
              obtain ⟨v12, ev12⟩ : ∃ y : Int32, y = x7 + 1 := ⟨_, rfl⟩
              have hw := gq_at1 hw ev12
              refine lv_iinc (v := v12) (lv' := [(4, .int v12), (0, .ref (ad 0)), (1, .int p1), (2, .int r1), (3, .int x6)]) hx hb dX4_unlike_100 hl (k := 4) rfl (by rw [ev12]; rfl) (by decide) rfl (fun ls hl => ?_)
              refine lv_goto (tgt := 34) hx hb dX4_unlike_103 (by decide) ?_
              exact ih x6 v12 _ _ hw hP hD hS ls (lv_sub hl [1, 2, 3, 4, 0] rfl)
            · have hw := gq_t c11 hw
              refine lv_aload_n hx hb dX4_unlike_55 rfl (lv_at hl 0 rfl) ?_
              refine va_get (D := D) (ci := 4) (v := .ref (ad 1)) (C := RX4) (T := TX4) (N := 5) hx hb hts iX4_unlike_X4 hown hK hP 0 rfl rfl 0 (by decide) (hts (.fieldLink RX4 12 "DecoyHouse" "plan" "LDecoyHouse$Plan;") (by decide +kernel)) (fun _ h9 => h9) rfl dX4_unlike_56 ?_
              refine lv_iload_n hx hb dX4_unlike_59 rfl (lv_at hl 1 rfl) ?_
              refine gq_calli (wsN := fun _ => (wdH ad ck Pd Pm Ps Pg Pj Bt Bi Bf Br Rt Rl Rr Ra Wt Wa Wk Wd Wn We Wb Hv)) (va_runV (As := [.int p1]) (rest := []) ⟨hx, hb, hml, hown, hts⟩ (c_X0_marks l D ad ck H.size Pd Pm Ps Pg Pj p1 _ hw) (cwV 1 hts gX4_unlike_X0_marks rfl rfl rfl (by decide +kernel) ⟨Nat.le_of_ble_eq_true rfl, Nat.le_of_ble_eq_true rfl⟩) (gq_preV hK [0, 1] rfl hP hD [1, 2, 3] rfl rfl hnw 0 0 rfl rfl) rfl rfl hl.1 rfl (lv_room (Nat.le_of_ble_eq_true rfl)) dX4_unlike_60 ⟨Nat.zero_le _, Nat.zero_le _⟩) hP hD hS hA [1, 2, 3] [0, 4, 5, 6, 7, 8, 9, 10, 11, 12, 13, 14, 15] rfl rfl rfl (by decide) [0, 13, 14, 15, 1, 2, 3, 4, 5, 6, 7, 8, 9, 10, 11, 12] rfl (fun _ => rfl) (fun r13 _ H locs hw hP hD hS => ?_)
              refine lv_aload_n hx hb dX4_unlike_63 rfl (lv_at hl 0 rfl) ?_
              refine va_get (D := D) (ci := 4) (v := .ref (ad 1)) (C := RX4) (T := TX4) (N := 5) hx hb hts iX4_unlike_X4 hown hK hP 0 rfl rfl 0 (by decide) (hts (.fieldLink RX4 12 "DecoyHouse" "plan" "LDecoyHouse$Plan;") (by decide +kernel)) (fun _ h9 => h9) rfl dX4_unlike_64 ?_
              refine lv_iload hx hb dX4_unlike_67 (lv_at hl 4 rfl) ?_
              refine gq_calli (wsN := fun _ => (wdH ad ck Pd Pm Ps Pg Pj Bt Bi Bf Br Rt Rl Rr Ra Wt Wa Wk Wd Wn We Wb Hv)) (va_runV (As := [.int x7]) (rest := [.int r13]) ⟨hx, hb, hml, hown, hts⟩ (c_X0_marks l D ad ck H.size Pd Pm Ps Pg Pj x7 _ hw) (cwV 1 hts gX4_unlike_X0_marks rfl rfl rfl (by decide +kernel) ⟨Nat.le_of_ble_eq_true rfl, Nat.le_of_ble_eq_true rfl⟩) (gq_preV hK [0, 1] rfl hP hD [1, 2, 3] rfl rfl hnw 0 0 rfl rfl) rfl rfl hl.1 rfl (lv_room (Nat.le_of_ble_eq_true rfl)) dX4_unlike_69 ⟨Nat.zero_le _, Nat.zero_le _⟩) hP hD hS hA [1, 2, 3] [0, 4, 5, 6, 7, 8, 9, 10, 11, 12, 13, 14, 15] rfl rfl rfl (by decide) [0, 13, 14, 15, 1, 2, 3, 4, 5, 6, 7, 8, 9, 10, 11, 12] rfl (fun _ => rfl) (fun r14 _ H locs hw hP hD hS => ?_)
              refine lv_ixor hx hb dX4_unlike_72 ?_
              refine lv_aload_n hx hb dX4_unlike_73 rfl (lv_at hl 0 rfl) ?_
              refine va_get (D := D) (ci := 4) (v := .int Hv) (C := RX4) (T := TX4) (N := 5) hx hb hts iX4_unlike_X4 hown hK hP 0 rfl rfl 4 (by decide) (hts (.fieldLink RX4 72 "DecoyHouse" "visibleMarks" "I") (by decide +kernel)) (fun _ h9 => h9) rfl dX4_unlike_74 ?_
              refine lv_iand hx hb dX4_unlike_77 ?_
              refine gq_calli (wsN := fun _ => (wdH ad ck Pd Pm Ps Pg Pj Bt Bi Bf Br Rt Rl Rr Ra Wt Wa Wk Wd Wn We Wb Hv)) (va_runS (As := [.int ((r13 ^^^ r14) &&& Hv)]) (rest := []) ⟨hx, hb, hml, hown, hts⟩ (c_J6_bitCount_0f7a4 l D H.size ((r13 ^^^ r14) &&& Hv) _ hw) (va_cwS 1 hts gX4_unlike_J6_bitCount_0f7a4 rfl rfl rfl (by decide +kernel) ⟨Nat.le_of_ble_eq_true rfl, Nat.le_of_ble_eq_true rfl⟩) (gq_preS hK [] rfl hP hD [] rfl rfl hnw) rfl rfl hl.1 rfl (lv_room (Nat.le_of_ble_eq_true rfl)) dX4_unlike_78 ⟨Nat.zero_le _, Nat.zero_le _⟩) hP hD hS hA [] [0, 1, 2, 3, 4, 5, 6, 7, 8, 9, 10, 11, 12, 13, 14, 15] rfl rfl rfl (by decide) [0, 1, 2, 3, 4, 5, 6, 7, 8, 9, 10, 11, 12, 13, 14, 15] rfl (fun _ => rfl) (fun r15 _ H locs hw hP hD hS => ?_)
              refine lv_istore (lv' := [(5, .int r15), (0, .ref (ad 0)), (1, .int p1), (2, .int r1), (3, .int x6), (4, .int x7)]) hx hb dX4_unlike_81 hl (by decide) rfl (fun ls hl => ?_)
              refine lv_iload_n hx hb dX4_unlike_83 rfl (lv_at hl 4 rfl) ?_
              refine lv_iconst (v := (-1)) hx hb dX4_unlike_84 (by decide) ?_
              refine lv_icmp_ne (tgt := 93) hx hb dX4_unlike_85 (by decide) (fun c16 => ?_) (fun c16 => ?_)
              · have hw := gq_f c16 hw
                refine lv_iload_n hx hb dX4_unlike_93 rfl (lv_at hl 4 rfl) ?_
                refine lv_iload hx hb dX4_unlike_94 (lv_at hl 0 rfl) ?_
                refine va_mmin hx hb (by rw [hml]; exact hl.1.symm) hown (hts (.methodLink RX4 142 Lib.Math.min.name) (by decide +kernel)) (hts (.static Lib.Math.min.name) (by decide +kernel)) (hts (.initialized "java/lang/Math") (by decide +kernel)) (hts (.code Lib.Math.min.name Lib.Math.min.code 2 (some .int)) (by decide +kernel)) (Nat.le_of_ble_eq_true rfl) (Nat.le_of_ble_eq_true rfl) (Nat.zero_le _) (Nat.zero_le _) dX4_unlike_96 ?_
                refine lv_topi (fun v17 ev17 => ?_)
                have hw := gq_at1 hw ev17
                refine lv_istore_n (lv' := [(3, .int v17), (5, .int r15), (0, .ref (ad 0)), (1, .int p1), (2, .int r1), (4, .int x7)]) hx hb dX4_unlike_99 rfl hl (by decide) rfl (fun ls hl => ?_)
                obtain ⟨v18, ev18⟩ : ∃ y : Int32, y = x7 + 1 := ⟨_, rfl⟩
                have hw := gq_at1 hw ev18
                refine lv_iinc (v := v18) (lv' := [(4, .int v18), (3, .int v17), (5, .int r15), (0, .ref (ad 0)), (1, .int p1), (2, .int r1)]) hx hb dX4_unlike_100 hl (k := 5) rfl (by rw [ev18]; rfl) (by decide) rfl (fun ls hl => ?_)
                refine lv_goto (tgt := 34) hx hb dX4_unlike_103 (by decide) ?_
                exact ih v17 v18 _ _ hw hP hD hS ls (lv_sub hl [3, 4, 5, 1, 0] rfl)
              · have hw := gq_t c16 hw
                refine lv_iload hx hb dX4_unlike_88 (lv_at hl 0 rfl) ?_
                refine lv_goto (tgt := 99) hx hb dX4_unlike_90 (by decide) ?_
                refine lv_istore_n (lv' := [(3, .int r15), (5, .int r15), (0, .ref (ad 0)), (1, .int p1), (2, .int r1), (4, .int x7)]) hx hb dX4_unlike_99 rfl hl (by decide) rfl (fun ls hl => ?_)
                obtain ⟨v19, ev19⟩ : ∃ y : Int32, y = x7 + 1 := ⟨_, rfl⟩
                have hw := gq_at1 hw ev19
                refine lv_iinc (v := v19) (lv' := [(4, .int v19), (3, .int r15), (5, .int r15), (0, .ref (ad 0)), (1, .int p1), (2, .int r1)]) hx hb dX4_unlike_100 hl (k := 5) rfl (by rw [ev19]; rfl) (by decide) rfl (fun ls hl => ?_)
                refine lv_goto (tgt := 34) hx hb dX4_unlike_103 (by decide) ?_
                exact ih r15 v19 _ _ hw hP hD hS ls (lv_sub hl [3, 4, 5, 1, 0] rfl)
      obtain ⟨n, hw⟩ := hw
      exact hL34 n (-1) 0 _ _ hw hP hD hS ls (lv_sub hl [3, 4, 2, 1, 0] rfl)
    · have hw := gq_t c5 hw
      refine lv_iconst (v := (-1)) hx hb dX4_unlike_27 (by decide) ?_
      exact hz (-1) () _ _ _ _ dX4_unlike_28 hw hP hD hS

def wp_X4_touch (p1 : Int32) (Wt : Nat → Int32) (Wd : Int32) (Wn : Int32) (post : Int32 → (Nat → Int32) → Int32 → Prop) : Prop :=
  wp_X2_noteTouch p1 Wt Wd Wn (fun (r1 : Int32) (Wt_2 : Nat → Int32) (Wn_3 : Int32) => gq_zb r1 ∧ post r1 Wt_2 Wn_3)

theorem iX4_touch_X4 : ∀ w ∈ wsX40, w ∈ wsX4_touch := by decide +kernel
set_option maxHeartbeats 4000000 in
set_option maxRecDepth 100000 in
theorem c_X4_touch (l : Launch) (D : va_G) (ad : Nat → Nat) (ck : Nat → ClassId) (sz : Nat) (Pd : Nat → Int32) (Pm : Nat → Int32) (Ps : Int32) (Pg : Int32) (Pj : Int32) (Bt : Nat → Int32) (Bi : Nat → Int32) (Bf : Int32) (Br : Int32) (Rt : Nat → Int32) (Rl : Nat → Int32) (Rr : Nat → Int32) (Ra : Nat → Int32) (Wt : Nat → Int32) (Wa : Nat → Int32) (Wk : Nat → Int32) (Wd : Int32) (Wn : Int32) (We : Int32) (Wb : Int32) (Hv : Int32) (p1 : Int32) (post : Int32 → (Nat → Int32) → Int32 → Prop) (hw : wp_X4_touch p1 Wt Wd Wn post) : Met l yX4_touch wsX4_touch { frames := 2, cells := 0, slots := 0, locals := 43 } (va_Pc [.ref (ad 0), .int p1] (gq_pre D (tyH ck) (wdH ad ck Pd Pm Ps Pg Pj Bt Bi Bf Br Rt Rl Rr Ra Wt Wa Wk Wd Wn We Wb Hv) sz)) (va_Qi (fun (r : Int32) (u : (Nat → Int32) × Int32) => post r u.1 u.2) (gq_at D (va_A (wdH ad ck Pd Pm Ps Pg Pj Bt Bi Bf Br Rt Rl Rr Ra Wt Wa Wk Wd Wn We Wb Hv) sz) (fun (u : (Nat → Int32) × Int32) => (wdH ad ck Pd Pm Ps Pg Pj Bt Bi Bf Br Rt Rl Rr Ra u.1 Wa Wk Wd u.2 We Wb Hv))) (va_A (wdH ad ck Pd Pm Ps Pg Pj Bt Bi Bf Br Rt Rl Rr Ra Wt Wa Wk Wd Wn We Wb Hv) sz)) 0 0 (va_A (wdH ad ck Pd Pm Ps Pg Pj Bt Bi Bf Br Rt Rl Rr Ra Wt Wa Wk Wd Wn We Wb Hv) sz) := by
  refine gq_metz (cc := cX4_touch) (maxL := 2) (lv := [(0, .ref (ad 0)), (1, .int p1)]) (by decide) rfl (Nat.le_of_ble_eq_true rfl) rfl ?_
  intro p e s m below meth c A Q ls H locs hx hb hml hown hts hnw hA hK hP hD hS hl hz
  refine lv_aload_n hx hb dX4_touch_0 rfl (lv_at hl 0 rfl) ?_
  refine va_get (D := D) (ci := 4) (v := .ref (ad 12)) (C := RX4) (T := TX4) (N := 5) hx hb hts iX4_touch_X4 hown hK hP 0 rfl rfl 3 (by decide) (hts (.fieldLink RX4 33 "DecoyHouse" "watch" "LDecoyHouse$Watch;") (by decide +kernel)) (fun _ h9 => h9) rfl dX4_touch_1 ?_
  refine lv_iload_n hx hb dX4_touch_4 rfl (lv_at hl 1 rfl) ?_
  refine gq_calli (wsN := fun u => (wdH ad ck Pd Pm Ps Pg Pj Bt Bi Bf Br Rt Rl Rr Ra u.1 Wa Wk Wd u.2 We Wb Hv)) (va_runV (As := [.int p1]) (rest := []) ⟨hx, hb, hml, hown, hts⟩ (c_X2_noteTouch l D ad ck H.size Wt Wa Wk Wd Wn We Wb p1 _ hw) (cwV 1 hts gX4_touch_X2_noteTouch rfl rfl rfl (by decide +kernel) ⟨Nat.le_of_ble_eq_true rfl, Nat.le_of_ble_eq_true rfl⟩) (gq_preV hK [8, 9, 10] rfl hP hD [12, 13, 14, 15] rfl rfl hnw 2 0 rfl rfl) rfl rfl hl.1 rfl (lv_room (Nat.le_of_ble_eq_true rfl)) dX4_touch_5 ⟨Nat.zero_le _, Nat.zero_le _⟩) hP hD hS hA [12, 13, 14, 15] [0, 1, 2, 3, 4, 5, 6, 7, 8, 9, 10, 11] rfl rfl rfl (by decide) [0, 1, 2, 3, 4, 5, 6, 7, 8, 9, 10, 11, 12, 13, 14, 15] rfl (fun _ => rfl) (fun r1 u_ H locs hw hP hD hS => ?_)
  obtain ⟨Wt_2, Wn_3⟩ := u_
  have hP : va_P D vwCl (wdH ad ck Pd Pm Ps Pg Pj Bt Bi Bf Br Rt Rl Rr Ra Wt_2 Wa Wk Wd Wn_3 We Wb Hv) H := hP
  have hD : va_D A (wdH ad ck Pd Pm Ps Pg Pj Bt Bi Bf Br Rt Rl Rr Ra Wt_2 Wa Wk Wd Wn_3 We Wb Hv) := hD
  exact hz r1 (Wt_2, Wn_3) _ _ _ _ dX4_touch_8 hw.1 hw.2 hP hD hS

