def wl_X4_left_19 (Wt : Nat → Int32) (Wd : Int32) (Wn : Int32) (Bt_1 : Nat → Int32) (Bi_2 : Nat → Int32) (Bf_3 : Int32) (Br_4 : Int32)   (post : Int32 → (Nat → Int32) → (Nat → Int32) → Int32 → Int32 → Prop) : Nat → Int32 → Int32 → Prop
  | 0, _, _ => False
  | n19 + 1, x7, x8 => wp_X3_count Bf_3 (fun (r9 : Int32) => (if r9 ≤ x8 then post x7 Bt_1 Bi_2 Bf_3 Br_4 else wp_X3_trail x8 Bt_1 Bf_3 (fun (r11 : Int32) => wp_X2_openFrom r11 Wt Wd Wn (fun (r12 : Int32) => (if r12 = (-1) then gq_nm (x8 + 1) (fun v14 : Int32 => wl_X4_left_19 Wt Wd Wn Bt_1 Bi_2 Bf_3 Br_4 post n19 x7 v14) else gq_nm (x7 + 1) (fun v15 : Int32 => gq_nm (x8 + 1) (fun v16 : Int32 => wl_X4_left_19 Wt Wd Wn Bt_1 Bi_2 Bf_3 Br_4 post n19 v15 v16)))))))

def wp_X4_left  (Pd : Nat → Int32) (Ps : Int32) (Pg : Int32) (Pj : Int32) (Bt : Nat → Int32) (Bi : Nat → Int32) (Bf : Int32) (Br : Int32) (Wt : Nat → Int32) (Wd : Int32) (Wn : Int32) (post : Int32 → (Nat → Int32) → (Nat → Int32) → Int32 → Int32 → Prop) : Prop :=
  wp_X4_bookNow Pd Ps Pg Pj Bt Bi Bf Br (fun (Bt_1 : Nat → Int32) (Bi_2 : Nat → Int32) (Bf_3 : Int32) (Br_4 : Int32) => wp_X3_count Bf_3 (fun (r5 : Int32) => (if r5 = (-1) then post (-1) Bt_1 Bi_2 Bf_3 Br_4 else ∃ k19, wl_X4_left_19 Wt Wd Wn Bt_1 Bi_2 Bf_3 Br_4 post k19 0 0)))

theorem iX4_left_X4 : ∀ w ∈ wsX40, w ∈ wsX4_left := by decide +kernel
set_option maxHeartbeats 4000000 in
set_option maxRecDepth 100000 in
theorem c_X4_left (l : Launch) (D : va_G) (ad : Nat → Nat) (ck : Nat → ClassId) (sz : Nat) (Pd : Nat → Int32) (Pm : Nat → Int32) (Ps : Int32) (Pg : Int32) (Pj : Int32) (Bt : Nat → Int32) (Bi : Nat → Int32) (Bf : Int32) (Br : Int32) (Rt : Nat → Int32) (Rl : Nat → Int32) (Rr : Nat → Int32) (Ra : Nat → Int32) (Wt : Nat → Int32) (Wa : Nat → Int32) (Wk : Nat → Int32) (Wd : Int32) (Wn : Int32) (We : Int32) (Wb : Int32) (Hv : Int32)  (post : Int32 → (Nat → Int32) → (Nat → Int32) → Int32 → Int32 → Prop) (hw : wp_X4_left Pd Ps Pg Pj Bt Bi Bf Br Wt Wd Wn post) : Met l yX4_left wsX4_left { frames := 11, cells := 0, slots := 0, locals := 280 } (va_Pc [.ref (ad 0)] (gq_pre D (tyH ck) (wdH ad ck Pd Pm Ps Pg Pj Bt Bi Bf Br Rt Rl Rr Ra Wt Wa Wk Wd Wn We Wb Hv) sz)) (va_Qi (fun (r : Int32) (u : (Nat → Int32) × (Nat → Int32) × Int32 × Int32) => post r u.1 u.2.1 u.2.2.1 u.2.2.2) (gq_at D (va_A (wdH ad ck Pd Pm Ps Pg Pj Bt Bi Bf Br Rt Rl Rr Ra Wt Wa Wk Wd Wn We Wb Hv) sz) (fun (u : (Nat → Int32) × (Nat → Int32) × Int32 × Int32) => (wdH ad ck Pd Pm Ps Pg Pj u.1 u.2.1 u.2.2.1 u.2.2.2 Rt Rl Rr Ra Wt Wa Wk Wd Wn We Wb Hv))) (va_A (wdH ad ck Pd Pm Ps Pg Pj Bt Bi Bf Br Rt Rl Rr Ra Wt Wa Wk Wd Wn We Wb Hv) sz)) 0 0 (va_A (wdH ad ck Pd Pm Ps Pg Pj Bt Bi Bf Br Rt Rl Rr Ra Wt Wa Wk Wd Wn We Wb Hv) sz) := by
  refine gq_meti (cc := cX4_left) (maxL := 4) (lv := [(0, .ref (ad 0))]) (by decide) rfl (Nat.le_of_ble_eq_true rfl) rfl ?_
  intro p e s m below meth c A Q ls H locs hx hb hml hown hts hnw hA hK hP hD hS hl hz
  refine lv_aload_n hx hb dX4_left_0 rfl (lv_at hl 0 rfl) ?_
  refine gq_callr (wsN := fun u => (wdH ad ck Pd Pm Ps Pg Pj u.1 u.2.1 u.2.2.1 u.2.2.2 Rt Rl Rr Ra Wt Wa Wk Wd Wn We Wb Hv)) (va_runV (As := []) (rest := []) ⟨hx, hb, hml, hown, hts⟩ (c_X4_bookNow l D ad ck H.size Pd Pm Ps Pg Pj Bt Bi Bf Br Rt Rl Rr Ra Wt Wa Wk Wd Wn We Wb Hv  _ hw) (cwV 0 hts gX4_left_X4_bookNow rfl rfl rfl (by decide +kernel) ⟨Nat.le_of_ble_eq_true rfl, Nat.le_of_ble_eq_true rfl⟩) (gq_preV hK [0, 1, 2, 3, 4, 5, 6, 7, 8, 9, 10] rfl hP hD [0, 1, 2, 3, 4, 5, 6, 7, 8, 9, 10, 11, 12, 13, 14, 15] rfl rfl hnw 4 0 rfl rfl) rfl rfl hl.1 rfl (lv_room (Nat.le_of_ble_eq_true rfl)) dX4_left_1 ⟨Nat.zero_le _, Nat.zero_le _⟩) hP hD hS hA [0, 1, 2, 3, 4, 5, 6, 7, 8, 9, 10, 11, 12, 13, 14, 15] [] rfl rfl rfl (by decide) [0, 1, 2, 3, 4, 5, 6, 7, 8, 9, 10, 11, 12, 13, 14, 15] rfl (fun _ => rfl) (fun u_ H locs hw hP hD hS => ?_)
  obtain ⟨Bt_1, Bi_2, Bf_3, Br_4⟩ := u_
  have hP : va_P D vwCl (wdH ad ck Pd Pm Ps Pg Pj Bt_1 Bi_2 Bf_3 Br_4 Rt Rl Rr Ra Wt Wa Wk Wd Wn We Wb Hv) H := hP
  have hD : va_D A (wdH ad ck Pd Pm Ps Pg Pj Bt_1 Bi_2 Bf_3 Br_4 Rt Rl Rr Ra Wt Wa Wk Wd Wn We Wb Hv) := hD
  refine lv_astore_n (lv' := [(1, .ref (ad 4)), (0, .ref (ad 0))]) hx hb dX4_left_4 rfl hl (by decide) rfl (fun ls hl => ?_)
  refine lv_aload_n hx hb dX4_left_5 rfl (lv_at hl 0 rfl) ?_
  refine gq_calli (wsN := fun _ => (wdH ad ck Pd Pm Ps Pg Pj Bt_1 Bi_2 Bf_3 Br_4 Rt Rl Rr Ra Wt Wa Wk Wd Wn We Wb Hv)) (va_runV (As := []) (rest := []) ⟨hx, hb, hml, hown, hts⟩ (c_X3_count l D ad ck H.size Bt_1 Bi_2 Bf_3 Br_4  _ hw) (cwV 0 hts gX4_left_X3_count rfl rfl rfl (by decide +kernel) ⟨Nat.le_of_ble_eq_true rfl, Nat.le_of_ble_eq_true rfl⟩) (gq_preV hK [2, 3] rfl hP hD [4, 5, 6] rfl rfl hnw 3 0 rfl rfl) rfl rfl hl.1 rfl (lv_room (Nat.le_of_ble_eq_true rfl)) dX4_left_6 ⟨Nat.zero_le _, Nat.zero_le _⟩) hP hD hS hA [4, 5, 6] [0, 1, 2, 3, 7, 8, 9, 10, 11, 12, 13, 14, 15] rfl rfl rfl (by decide) [0, 1, 2, 3, 13, 14, 15, 4, 5, 6, 7, 8, 9, 10, 11, 12] rfl (fun _ => rfl) (fun r5 _ H locs hw hP hD hS => ?_)
  refine lv_iconst (v := (-1)) hx hb dX4_left_9 (by decide) ?_
  refine lv_icmp_ne (tgt := 15) hx hb dX4_left_10 (by decide) (fun c6 => ?_) (fun c6 => ?_)
  · have hw := gq_f c6 hw
    refine lv_iconst (v := 0) hx hb dX4_left_15 (by decide) ?_
    refine lv_istore_n (lv' := [(2, .int 0), (1, .ref (ad 4)), (0, .ref (ad 0))]) hx hb dX4_left_16 rfl hl (by decide) rfl (fun ls hl => ?_)
    refine lv_iconst (v := 0) hx hb dX4_left_17 (by decide) ?_
    refine lv_istore_n (lv' := [(3, .int 0), (2, .int 0), (1, .ref (ad 4)), (0, .ref (ad 0))]) hx hb dX4_left_18 rfl hl (by decide) rfl (fun ls hl => ?_)
    have hL19 : ∀ (n : Nat) (x7 : Int32) (x8 : Int32) (H : Heap) (locs : List Loc), wl_X4_left_19 Wt Wd Wn Bt_1 Bi_2 Bf_3 Br_4 post n x7 x8 → va_P D vwCl (wdH ad ck Pd Pm Ps Pg Pj Bt_1 Bi_2 Bf_3 Br_4 Rt Rl Rr Ra Wt Wa Wk Wd Wn We Wb Hv) H → va_D A (wdH ad ck Pd Pm Ps Pg Pj Bt_1 Bi_2 Bf_3 Br_4 Rt Rl Rr Ra Wt Wa Wk Wd Wn We Wb Hv) → va_S A s.heap H locs → ∀ ls : Array Slot, lv_has ls 4 [(0, .ref (ad 0)), (1, .ref (ad 4)), (2, .int x7), (3, .int x8)] → W p l e { frames := 11, cells := 0, slots := 0, locals := 280 } s m ([.ref (ad 0)] : List Value).toArray below meth c H locs 0 0 Q (F0 m 19 ls []) := by
      intro n
      induction n with
      | zero =>
        intro x7 x8 H locs hw
        exact hw.elim
      | succ n ih =>
        intro x7 x8 H locs hw hP hD hS ls hl
        refine lv_iload_n hx hb dX4_left_19 rfl (lv_at hl 3 rfl) ?_
        refine lv_aload_n hx hb dX4_left_20 rfl (lv_at hl 1 rfl) ?_
        refine gq_calli (wsN := fun _ => (wdH ad ck Pd Pm Ps Pg Pj Bt_1 Bi_2 Bf_3 Br_4 Rt Rl Rr Ra Wt Wa Wk Wd Wn We Wb Hv)) (va_runV (As := []) (rest := [.int x8]) ⟨hx, hb, hml, hown, hts⟩ (c_X3_count l D ad ck H.size Bt_1 Bi_2 Bf_3 Br_4  _ hw) (cwV 0 hts gX4_left_X3_count rfl rfl rfl (by decide +kernel) ⟨Nat.le_of_ble_eq_true rfl, Nat.le_of_ble_eq_true rfl⟩) (gq_preV hK [2, 3] rfl hP hD [4, 5, 6] rfl rfl hnw 3 0 rfl rfl) rfl rfl hl.1 rfl (lv_room (Nat.le_of_ble_eq_true rfl)) dX4_left_21 ⟨Nat.zero_le _, Nat.zero_le _⟩) hP hD hS hA [4, 5, 6] [0, 1, 2, 3, 7, 8, 9, 10, 11, 12, 13, 14, 15] rfl rfl rfl (by decide) [0, 1, 2, 3, 13, 14, 15, 4, 5, 6, 7, 8, 9, 10, 11, 12] rfl (fun _ => rfl) (fun r9 _ H locs hw hP hD hS => ?_)
        refine lv_icmp_ge (tgt := 52) hx hb dX4_left_24 (by decide) (fun c10 => ?_) (fun c10 => ?_)
        · have hw := gq_t c10 hw
          refine lv_iload_n hx hb dX4_left_52 rfl (lv_at hl 2 rfl) ?_
          exact hz x7 (Bt_1, Bi_2, Bf_3, Br_4) _ _ _ _ dX4_left_53 hw hP hD hS
        · have hw := gq_f c10 hw
          refine lv_aload_n hx hb dX4_left_27 rfl (lv_at hl 0 rfl) ?_
          refine va_get (D := D) (ci := 4) (v := .ref (ad 12)) (C := RX4) (T := TX4) (N := 5) hx hb hts iX4_left_X4 hown hK hP 0 rfl rfl 3 (by decide) (hts (.fieldLink RX4 33 "DecoyHouse" "watch" "LDecoyHouse$Watch;") (by decide +kernel)) (fun _ h9 => h9) rfl dX4_left_28 ?_
          refine lv_aload_n hx hb dX4_left_31 rfl (lv_at hl 1 rfl) ?_
          refine lv_iload_n hx hb dX4_left_32 rfl (lv_at hl 3 rfl) ?_
          refine gq_calli (wsN := fun _ => (wdH ad ck Pd Pm Ps Pg Pj Bt_1 Bi_2 Bf_3 Br_4 Rt Rl Rr Ra Wt Wa Wk Wd Wn We Wb Hv)) (va_runV (As := [.int x8]) (rest := [.ref (ad 12)]) ⟨hx, hb, hml, hown, hts⟩ (c_X3_trail l D ad ck H.size Bt_1 Bi_2 Bf_3 Br_4 x8 _ hw) (cwV 1 hts gX4_left_X3_trail rfl rfl rfl (by decide +kernel) ⟨Nat.le_of_ble_eq_true rfl, Nat.le_of_ble_eq_true rfl⟩) (gq_preV hK [2, 3] rfl hP hD [4, 5, 6] rfl rfl hnw 3 0 rfl rfl) rfl rfl hl.1 rfl (lv_room (Nat.le_of_ble_eq_true rfl)) dX4_left_33 ⟨Nat.zero_le _, Nat.zero_le _⟩) hP hD hS hA [4, 5, 6] [0, 1, 2, 3, 7, 8, 9, 10, 11, 12, 13, 14, 15] rfl rfl rfl (by decide) [0, 1, 2, 3, 13, 14, 15, 4, 5, 6, 7, 8, 9, 10, 11, 12] rfl (fun _ => rfl) (fun r11 _ H locs hw hP hD hS => ?_)
          refine gq_calli (wsN := fun _ => (wdH ad ck Pd Pm Ps Pg Pj Bt_1 Bi_2 Bf_3 Br_4 Rt Rl Rr Ra Wt Wa Wk Wd Wn We Wb Hv)) (va_runV (As := [.int r11]) (rest := []) ⟨hx, hb, hml, hown, hts⟩ (c_X2_openFrom l D ad ck H.size Wt Wa Wk Wd Wn We Wb r11 _ hw) (cwV 1 hts gX4_left_X2_openFrom rfl rfl rfl (by decide +kernel) ⟨Nat.le_of_ble_eq_true rfl, Nat.le_of_ble_eq_true rfl⟩) (gq_preV hK [8, 9, 10] rfl hP hD [12, 13, 14, 15] rfl rfl hnw 2 0 rfl rfl) rfl rfl hl.1 rfl (lv_room (Nat.le_of_ble_eq_true rfl)) dX4_left_36 ⟨Nat.zero_le _, Nat.zero_le _⟩) hP hD hS hA [12, 13, 14, 15] [0, 1, 2, 3, 4, 5, 6, 7, 8, 9, 10, 11] rfl rfl rfl (by decide) [0, 1, 2, 3, 4, 5, 6, 7, 8, 9, 10, 11, 12, 13, 14, 15] rfl (fun _ => rfl) (fun r12 _ H locs hw hP hD hS => ?_)
          refine lv_iconst (v := (-1)) hx hb dX4_left_39 (by decide) ?_
          refine lv_icmp_eq (tgt := 46) hx hb dX4_left_40 (by decide) (fun c13 => ?_) (fun c13 => ?_)
          · have hw := gq_t c13 hw
            obtain ⟨v14, ev14⟩ : ∃ y : Int32, y = x8 + 1 := ⟨_, rfl⟩
            have hw := gq_at1 hw ev14
            refine lv_iinc (v := v14) (lv' := [(3, .int v14), (0, .ref (ad 0)), (1, .ref (ad 4)), (2, .int x7)]) hx hb dX4_left_46 hl (k := 3) rfl (by rw [ev14]; rfl) (by decide) rfl (fun ls hl => ?_)
            refine lv_goto (tgt := 19) hx hb dX4_left_49 (by decide) ?_
            exact ih x7 v14 _ _ hw hP hD hS ls (lv_sub hl [1, 2, 3, 0] rfl)
          · have hw := gq_f c13 hw
            obtain ⟨v15, ev15⟩ : ∃ y : Int32, y = x7 + 1 := ⟨_, rfl⟩
            have hw := gq_at1 hw ev15
            refine lv_iinc (v := v15) (lv' := [(2, .int v15), (0, .ref (ad 0)), (1, .ref (ad 4)), (3, .int x8)]) hx hb dX4_left_43 hl (k := 2) rfl (by rw [ev15]; rfl) (by decide) rfl (fun ls hl => ?_)
            obtain ⟨v16, ev16⟩ : ∃ y : Int32, y = x8 + 1 := ⟨_, rfl⟩
            have hw := gq_at1 hw ev16
            refine lv_iinc (v := v16) (lv' := [(3, .int v16), (2, .int v15), (0, .ref (ad 0)), (1, .ref (ad 4))]) hx hb dX4_left_46 hl (k := 3) rfl (by rw [ev16]; rfl) (by decide) rfl (fun ls hl => ?_)
            refine lv_goto (tgt := 19) hx hb dX4_left_49 (by decide) ?_
            exact ih v15 v16 _ _ hw hP hD hS ls (lv_sub hl [2, 3, 1, 0] rfl)
    obtain ⟨n, hw⟩ := hw
    exact hL19 n 0 0 _ _ hw hP hD hS ls (lv_sub hl [3, 2, 1, 0] rfl)
  · have hw := gq_t c6 hw
    refine lv_iconst (v := (-1)) hx hb dX4_left_13 (by decide) ?_
    exact hz (-1) (Bt_1, Bi_2, Bf_3, Br_4) _ _ _ _ dX4_left_14 hw hP hD hS

def wl_X4_leftWay_10 (p1 : Int32) (Wt : Nat → Int32) (Wd : Int32) (Wn : Int32) (Bt_1 : Nat → Int32) (Bi_2 : Nat → Int32) (Bf_3 : Int32) (Br_4 : Int32)   (post : Int32 → (Nat → Int32) → (Nat → Int32) → Int32 → Int32 → Prop) : Nat → Int32 → Int32 → Prop
  | 0, _, _ => False
  | n10 + 1, x5, x6 => wp_X3_count Bf_3 (fun (r7 : Int32) => (if r7 ≤ x6 then post (-1) Bt_1 Bi_2 Bf_3 Br_4 else wp_X3_trail x6 Bt_1 Bf_3 (fun (r9 : Int32) => wp_X2_openFrom r9 Wt Wd Wn (fun (r10 : Int32) => (if r10 = (-1) then gq_nm (x6 + 1) (fun v12 : Int32 => wl_X4_leftWay_10 p1 Wt Wd Wn Bt_1 Bi_2 Bf_3 Br_4 post n10 x5 v12) else (if x5 = p1 then post x6 Bt_1 Bi_2 Bf_3 Br_4 else gq_nm (x5 + 1) (fun v14 : Int32 => gq_nm (x6 + 1) (fun v15 : Int32 => wl_X4_leftWay_10 p1 Wt Wd Wn Bt_1 Bi_2 Bf_3 Br_4 post n10 v14 v15))))))))

def wp_X4_leftWay (p1 : Int32) (Pd : Nat → Int32) (Ps : Int32) (Pg : Int32) (Pj : Int32) (Bt : Nat → Int32) (Bi : Nat → Int32) (Bf : Int32) (Br : Int32) (Wt : Nat → Int32) (Wd : Int32) (Wn : Int32) (post : Int32 → (Nat → Int32) → (Nat → Int32) → Int32 → Int32 → Prop) : Prop :=
  wp_X4_bookNow Pd Ps Pg Pj Bt Bi Bf Br (fun (Bt_1 : Nat → Int32) (Bi_2 : Nat → Int32) (Bf_3 : Int32) (Br_4 : Int32) => ∃ k10, wl_X4_leftWay_10 p1 Wt Wd Wn Bt_1 Bi_2 Bf_3 Br_4 post k10 0 0)

theorem iX4_leftWay_X4 : ∀ w ∈ wsX40, w ∈ wsX4_leftWay := by decide +kernel
set_option maxHeartbeats 4000000 in
set_option maxRecDepth 100000 in
theorem c_X4_leftWay (l : Launch) (D : va_G) (ad : Nat → Nat) (ck : Nat → ClassId) (sz : Nat) (Pd : Nat → Int32) (Pm : Nat → Int32) (Ps : Int32) (Pg : Int32) (Pj : Int32) (Bt : Nat → Int32) (Bi : Nat → Int32) (Bf : Int32) (Br : Int32) (Rt : Nat → Int32) (Rl : Nat → Int32) (Rr : Nat → Int32) (Ra : Nat → Int32) (Wt : Nat → Int32) (Wa : Nat → Int32) (Wk : Nat → Int32) (Wd : Int32) (Wn : Int32) (We : Int32) (Wb : Int32) (Hv : Int32) (p1 : Int32) (post : Int32 → (Nat → Int32) → (Nat → Int32) → Int32 → Int32 → Prop) (hw : wp_X4_leftWay p1 Pd Ps Pg Pj Bt Bi Bf Br Wt Wd Wn post) : Met l yX4_leftWay wsX4_leftWay { frames := 11, cells := 0, slots := 0, locals := 280 } (va_Pc [.ref (ad 0), .int p1] (gq_pre D (tyH ck) (wdH ad ck Pd Pm Ps Pg Pj Bt Bi Bf Br Rt Rl Rr Ra Wt Wa Wk Wd Wn We Wb Hv) sz)) (va_Qi (fun (r : Int32) (u : (Nat → Int32) × (Nat → Int32) × Int32 × Int32) => post r u.1 u.2.1 u.2.2.1 u.2.2.2) (gq_at D (va_A (wdH ad ck Pd Pm Ps Pg Pj Bt Bi Bf Br Rt Rl Rr Ra Wt Wa Wk Wd Wn We Wb Hv) sz) (fun (u : (Nat → Int32) × (Nat → Int32) × Int32 × Int32) => (wdH ad ck Pd Pm Ps Pg Pj u.1 u.2.1 u.2.2.1 u.2.2.2 Rt Rl Rr Ra Wt Wa Wk Wd Wn We Wb Hv))) (va_A (wdH ad ck Pd Pm Ps Pg Pj Bt Bi Bf Br Rt Rl Rr Ra Wt Wa Wk Wd Wn We Wb Hv) sz)) 0 0 (va_A (wdH ad ck Pd Pm Ps Pg Pj Bt Bi Bf Br Rt Rl Rr Ra Wt Wa Wk Wd Wn We Wb Hv) sz) := by
  refine gq_meti (cc := cX4_leftWay) (maxL := 5) (lv := [(0, .ref (ad 0)), (1, .int p1)]) (by decide) rfl (Nat.le_of_ble_eq_true rfl) rfl ?_
  intro p e s m below meth c A Q ls H locs hx hb hml hown hts hnw hA hK hP hD hS hl hz
  refine lv_aload_n hx hb dX4_leftWay_0 rfl (lv_at hl 0 rfl) ?_
  refine gq_callr (wsN := fun u => (wdH ad ck Pd Pm Ps Pg Pj u.1 u.2.1 u.2.2.1 u.2.2.2 Rt Rl Rr Ra Wt Wa Wk Wd Wn We Wb Hv)) (va_runV (As := []) (rest := []) ⟨hx, hb, hml, hown, hts⟩ (c_X4_bookNow l D ad ck H.size Pd Pm Ps Pg Pj Bt Bi Bf Br Rt Rl Rr Ra Wt Wa Wk Wd Wn We Wb Hv  _ hw) (cwV 0 hts gX4_leftWay_X4_bookNow rfl rfl rfl (by decide +kernel) ⟨Nat.le_of_ble_eq_true rfl, Nat.le_of_ble_eq_true rfl⟩) (gq_preV hK [0, 1, 2, 3, 4, 5, 6, 7, 8, 9, 10] rfl hP hD [0, 1, 2, 3, 4, 5, 6, 7, 8, 9, 10, 11, 12, 13, 14, 15] rfl rfl hnw 4 0 rfl rfl) rfl rfl hl.1 rfl (lv_room (Nat.le_of_ble_eq_true rfl)) dX4_leftWay_1 ⟨Nat.zero_le _, Nat.zero_le _⟩) hP hD hS hA [0, 1, 2, 3, 4, 5, 6, 7, 8, 9, 10, 11, 12, 13, 14, 15] [] rfl rfl rfl (by decide) [0, 1, 2, 3, 4, 5, 6, 7, 8, 9, 10, 11, 12, 13, 14, 15] rfl (fun _ => rfl) (fun u_ H locs hw hP hD hS => ?_)
  obtain ⟨Bt_1, Bi_2, Bf_3, Br_4⟩ := u_
  have hP : va_P D vwCl (wdH ad ck Pd Pm Ps Pg Pj Bt_1 Bi_2 Bf_3 Br_4 Rt Rl Rr Ra Wt Wa Wk Wd Wn We Wb Hv) H := hP
  have hD : va_D A (wdH ad ck Pd Pm Ps Pg Pj Bt_1 Bi_2 Bf_3 Br_4 Rt Rl Rr Ra Wt Wa Wk Wd Wn We Wb Hv) := hD
  refine lv_astore_n (lv' := [(2, .ref (ad 4)), (0, .ref (ad 0)), (1, .int p1)]) hx hb dX4_leftWay_4 rfl hl (by decide) rfl (fun ls hl => ?_)
  refine lv_iconst (v := 0) hx hb dX4_leftWay_5 (by decide) ?_
  refine lv_istore_n (lv' := [(3, .int 0), (2, .ref (ad 4)), (0, .ref (ad 0)), (1, .int p1)]) hx hb dX4_leftWay_6 rfl hl (by decide) rfl (fun ls hl => ?_)
  refine lv_iconst (v := 0) hx hb dX4_leftWay_7 (by decide) ?_
  refine lv_istore (lv' := [(4, .int 0), (3, .int 0), (2, .ref (ad 4)), (0, .ref (ad 0)), (1, .int p1)]) hx hb dX4_leftWay_8 hl (by decide) rfl (fun ls hl => ?_)
  have hL10 : ∀ (n : Nat) (x5 : Int32) (x6 : Int32) (H : Heap) (locs : List Loc), wl_X4_leftWay_10 p1 Wt Wd Wn Bt_1 Bi_2 Bf_3 Br_4 post n x5 x6 → va_P D vwCl (wdH ad ck Pd Pm Ps Pg Pj Bt_1 Bi_2 Bf_3 Br_4 Rt Rl Rr Ra Wt Wa Wk Wd Wn We Wb Hv) H → va_D A (wdH ad ck Pd Pm Ps Pg Pj Bt_1 Bi_2 Bf_3 Br_4 Rt Rl Rr Ra Wt Wa Wk Wd Wn We Wb Hv) → va_S A s.heap H locs → ∀ ls : Array Slot, lv_has ls 5 [(0, .ref (ad 0)), (1, .int p1), (2, .ref (ad 4)), (3, .int x5), (4, .int x6)] → W p l e { frames := 11, cells := 0, slots := 0, locals := 280 } s m ([.ref (ad 0), .int p1] : List Value).toArray below meth c H locs 0 0 Q (F0 m 10 ls []) := by
    intro n
    induction n with
    | zero =>
      intro x5 x6 H locs hw
      exact hw.elim
    | succ n ih =>
      intro x5 x6 H locs hw hP hD hS ls hl
      refine lv_iload hx hb dX4_leftWay_10 (lv_at hl 4 rfl) ?_
      refine lv_aload_n hx hb dX4_leftWay_12 rfl (lv_at hl 2 rfl) ?_
      refine gq_calli (wsN := fun _ => (wdH ad ck Pd Pm Ps Pg Pj Bt_1 Bi_2 Bf_3 Br_4 Rt Rl Rr Ra Wt Wa Wk Wd Wn We Wb Hv)) (va_runV (As := []) (rest := [.int x6]) ⟨hx, hb, hml, hown, hts⟩ (c_X3_count l D ad ck H.size Bt_1 Bi_2 Bf_3 Br_4  _ hw) (cwV 0 hts gX4_leftWay_X3_count rfl rfl rfl (by decide +kernel) ⟨Nat.le_of_ble_eq_true rfl, Nat.le_of_ble_eq_true rfl⟩) (gq_preV hK [2, 3] rfl hP hD [4, 5, 6] rfl rfl hnw 3 0 rfl rfl) rfl rfl hl.1 rfl (lv_room (Nat.le_of_ble_eq_true rfl)) dX4_leftWay_13 ⟨Nat.zero_le _, Nat.zero_le _⟩) hP hD hS hA [4, 5, 6] [0, 1, 2, 3, 7, 8, 9, 10, 11, 12, 13, 14, 15] rfl rfl rfl (by decide) [0, 1, 2, 3, 13, 14, 15, 4, 5, 6, 7, 8, 9, 10, 11, 12] rfl (fun _ => rfl) (fun r7 _ H locs hw hP hD hS => ?_)
      refine lv_icmp_ge (tgt := 53) hx hb dX4_leftWay_16 (by decide) (fun c8 => ?_) (fun c8 => ?_)
      · have hw := gq_t c8 hw
        refine lv_iconst (v := (-1)) hx hb dX4_leftWay_53 (by decide) ?_
        exact hz (-1) (Bt_1, Bi_2, Bf_3, Br_4) _ _ _ _ dX4_leftWay_54 hw hP hD hS
      · have hw := gq_f c8 hw
        refine lv_aload_n hx hb dX4_leftWay_19 rfl (lv_at hl 0 rfl) ?_
        refine va_get (D := D) (ci := 4) (v := .ref (ad 12)) (C := RX4) (T := TX4) (N := 5) hx hb hts iX4_leftWay_X4 hown hK hP 0 rfl rfl 3 (by decide) (hts (.fieldLink RX4 33 "DecoyHouse" "watch" "LDecoyHouse$Watch;") (by decide +kernel)) (fun _ h9 => h9) rfl dX4_leftWay_20 ?_
        refine lv_aload_n hx hb dX4_leftWay_23 rfl (lv_at hl 2 rfl) ?_
        refine lv_iload hx hb dX4_leftWay_24 (lv_at hl 4 rfl) ?_
        refine gq_calli (wsN := fun _ => (wdH ad ck Pd Pm Ps Pg Pj Bt_1 Bi_2 Bf_3 Br_4 Rt Rl Rr Ra Wt Wa Wk Wd Wn We Wb Hv)) (va_runV (As := [.int x6]) (rest := [.ref (ad 12)]) ⟨hx, hb, hml, hown, hts⟩ (c_X3_trail l D ad ck H.size Bt_1 Bi_2 Bf_3 Br_4 x6 _ hw) (cwV 1 hts gX4_leftWay_X3_trail rfl rfl rfl (by decide +kernel) ⟨Nat.le_of_ble_eq_true rfl, Nat.le_of_ble_eq_true rfl⟩) (gq_preV hK [2, 3] rfl hP hD [4, 5, 6] rfl rfl hnw 3 0 rfl rfl) rfl rfl hl.1 rfl (lv_room (Nat.le_of_ble_eq_true rfl)) dX4_leftWay_26 ⟨Nat.zero_le _, Nat.zero_le _⟩) hP hD hS hA [4, 5, 6] [0, 1, 2, 3, 7, 8, 9, 10, 11, 12, 13, 14, 15] rfl rfl rfl (by decide) [0, 1, 2, 3, 13, 14, 15, 4, 5, 6, 7, 8, 9, 10, 11, 12] rfl (fun _ => rfl) (fun r9 _ H locs hw hP hD hS => ?_)
        refine gq_calli (wsN := fun _ => (wdH ad ck Pd Pm Ps Pg Pj Bt_1 Bi_2 Bf_3 Br_4 Rt Rl Rr Ra Wt Wa Wk Wd Wn We Wb Hv)) (va_runV (As := [.int r9]) (rest := []) ⟨hx, hb, hml, hown, hts⟩ (c_X2_openFrom l D ad ck H.size Wt Wa Wk Wd Wn We Wb r9 _ hw) (cwV 1 hts gX4_leftWay_X2_openFrom rfl rfl rfl (by decide +kernel) ⟨Nat.le_of_ble_eq_true rfl, Nat.le_of_ble_eq_true rfl⟩) (gq_preV hK [8, 9, 10] rfl hP hD [12, 13, 14, 15] rfl rfl hnw 2 0 rfl rfl) rfl rfl hl.1 rfl (lv_room (Nat.le_of_ble_eq_true rfl)) dX4_leftWay_29 ⟨Nat.zero_le _, Nat.zero_le _⟩) hP hD hS hA [12, 13, 14, 15] [0, 1, 2, 3, 4, 5, 6, 7, 8, 9, 10, 11] rfl rfl rfl (by decide) [0, 1, 2, 3, 4, 5, 6, 7, 8, 9, 10, 11, 12, 13, 14, 15] rfl (fun _ => rfl) (fun r10 _ H locs hw hP hD hS => ?_)
        refine lv_iconst (v := (-1)) hx hb dX4_leftWay_32 (by decide) ?_
        refine lv_icmp_eq (tgt := 47) hx hb dX4_leftWay_33 (by decide) (fun c11 => ?_) (fun c11 => ?_)
        · have hw := gq_t c11 hw
          obtain ⟨v12, ev12⟩ : ∃ y : Int32, y = x6 + 1 := ⟨_, rfl⟩
          have hw := gq_at1 hw ev12
          refine lv_iinc (v := v12) (lv' := [(4, .int v12), (0, .ref (ad 0)), (1, .int p1), (2, .ref (ad 4)), (3, .int x5)]) hx hb dX4_leftWay_47 hl (k := 4) rfl (by rw [ev12]; rfl) (by decide) rfl (fun ls hl => ?_)
          refine lv_goto (tgt := 10) hx hb dX4_leftWay_50 (by decide) ?_
          exact ih x5 v12 _ _ hw hP hD hS ls (lv_sub hl [1, 2, 3, 4, 0] rfl)
        · have hw := gq_f c11 hw
          refine lv_iload_n hx hb dX4_leftWay_36 rfl (lv_at hl 3 rfl) ?_
          refine lv_iload_n hx hb dX4_leftWay_37 rfl (lv_at hl 1 rfl) ?_
          refine lv_icmp_ne (tgt := 44) hx hb dX4_leftWay_38 (by decide) (fun c13 => ?_) (fun c13 => ?_)
          · have hw := gq_f c13 hw
            obtain ⟨v14, ev14⟩ : ∃ y : Int32, y = x5 + 1 := ⟨_, rfl⟩
            have hw := gq_at1 hw ev14
            refine lv_iinc (v := v14) (lv' := [(3, .int v14), (0, .ref (ad 0)), (1, .int p1), (2, .ref (ad 4)), (4, .int x6)]) hx hb dX4_leftWay_44 hl (k := 3) rfl (by rw [ev14]; rfl) (by decide) rfl (fun ls hl => ?_)
            obtain ⟨v15, ev15⟩ : ∃ y : Int32, y = x6 + 1 := ⟨_, rfl⟩
            have hw := gq_at1 hw ev15
            refine lv_iinc (v := v15) (lv' := [(4, .int v15), (3, .int v14), (0, .ref (ad 0)), (1, .int p1), (2, .ref (ad 4))]) hx hb dX4_leftWay_47 hl (k := 4) rfl (by rw [ev15]; rfl) (by decide) rfl (fun ls hl => ?_)
            refine lv_goto (tgt := 10) hx hb dX4_leftWay_50 (by decide) ?_
            exact ih v14 v15 _ _ hw hP hD hS ls (lv_sub hl [2, 3, 4, 1, 0] rfl)
          · have hw := gq_t c13 hw
            refine lv_iload hx hb dX4_leftWay_41 (lv_at hl 4 rfl) ?_
            exact hz x6 (Bt_1, Bi_2, Bf_3, Br_4) _ _ _ _ dX4_leftWay_43 hw hP hD hS
  obtain ⟨n, hw⟩ := hw
  exact hL10 n 0 0 _ _ hw hP hD hS ls (lv_sub hl [3, 4, 2, 1, 0] rfl)

def wl_X4_next_19 (Wt : Nat → Int32) (Wd : Int32) (Wn : Int32) (Bt_1 : Nat → Int32) (Bi_2 : Nat → Int32) (Bf_3 : Int32) (Br_4 : Int32)   (post : Int32 → (Nat → Int32) → (Nat → Int32) → Int32 → Int32 → Prop) : Nat → Int32 → Int32 → Prop
  | 0, _, _ => False
  | n19 + 1, x7, x8 => wp_X3_count Bf_3 (fun (r9 : Int32) => (if r9 ≤ x8 then post x7 Bt_1 Bi_2 Bf_3 Br_4 else wp_X3_trail x8 Bt_1 Bf_3 (fun (r11 : Int32) => wp_X2_openFrom r11 Wt Wd Wn (fun (r12 : Int32) => wp_X4_placeOn r11 r12 (fun (r13 : Int32) => wp_X4_setOf r13 (fun (r14 : Int32) => gq_nm (x7 ||| r14) (fun v15 : Int32 => gq_nm (x8 + 1) (fun v16 : Int32 => wl_X4_next_19 Wt Wd Wn Bt_1 Bi_2 Bf_3 Br_4 post n19 v15 v16))))))))

def wp_X4_next  (Pd : Nat → Int32) (Ps : Int32) (Pg : Int32) (Pj : Int32) (Bt : Nat → Int32) (Bi : Nat → Int32) (Bf : Int32) (Br : Int32) (Wt : Nat → Int32) (Wd : Int32) (Wn : Int32) (post : Int32 → (Nat → Int32) → (Nat → Int32) → Int32 → Int32 → Prop) : Prop :=
  wp_X4_bookNow Pd Ps Pg Pj Bt Bi Bf Br (fun (Bt_1 : Nat → Int32) (Bi_2 : Nat → Int32) (Bf_3 : Int32) (Br_4 : Int32) => wp_X3_count Bf_3 (fun (r5 : Int32) => (if r5 = (-1) then post (-1) Bt_1 Bi_2 Bf_3 Br_4 else ∃ k19, wl_X4_next_19 Wt Wd Wn Bt_1 Bi_2 Bf_3 Br_4 post k19 0 0)))

theorem iX4_next_X4 : ∀ w ∈ wsX40, w ∈ wsX4_next := by decide +kernel
set_option maxHeartbeats 4000000 in
set_option maxRecDepth 100000 in
theorem c_X4_next (l : Launch) (D : va_G) (ad : Nat → Nat) (ck : Nat → ClassId) (sz : Nat) (Pd : Nat → Int32) (Pm : Nat → Int32) (Ps : Int32) (Pg : Int32) (Pj : Int32) (Bt : Nat → Int32) (Bi : Nat → Int32) (Bf : Int32) (Br : Int32) (Rt : Nat → Int32) (Rl : Nat → Int32) (Rr : Nat → Int32) (Ra : Nat → Int32) (Wt : Nat → Int32) (Wa : Nat → Int32) (Wk : Nat → Int32) (Wd : Int32) (Wn : Int32) (We : Int32) (Wb : Int32) (Hv : Int32)  (post : Int32 → (Nat → Int32) → (Nat → Int32) → Int32 → Int32 → Prop) (hw : wp_X4_next Pd Ps Pg Pj Bt Bi Bf Br Wt Wd Wn post) : Met l yX4_next wsX4_next { frames := 11, cells := 0, slots := 0, locals := 280 } (va_Pc [.ref (ad 0)] (gq_pre D (tyH ck) (wdH ad ck Pd Pm Ps Pg Pj Bt Bi Bf Br Rt Rl Rr Ra Wt Wa Wk Wd Wn We Wb Hv) sz)) (va_Qi (fun (r : Int32) (u : (Nat → Int32) × (Nat → Int32) × Int32 × Int32) => post r u.1 u.2.1 u.2.2.1 u.2.2.2) (gq_at D (va_A (wdH ad ck Pd Pm Ps Pg Pj Bt Bi Bf Br Rt Rl Rr Ra Wt Wa Wk Wd Wn We Wb Hv) sz) (fun (u : (Nat → Int32) × (Nat → Int32) × Int32 × Int32) => (wdH ad ck Pd Pm Ps Pg Pj u.1 u.2.1 u.2.2.1 u.2.2.2 Rt Rl Rr Ra Wt Wa Wk Wd Wn We Wb Hv))) (va_A (wdH ad ck Pd Pm Ps Pg Pj Bt Bi Bf Br Rt Rl Rr Ra Wt Wa Wk Wd Wn We Wb Hv) sz)) 0 0 (va_A (wdH ad ck Pd Pm Ps Pg Pj Bt Bi Bf Br Rt Rl Rr Ra Wt Wa Wk Wd Wn We Wb Hv) sz) := by
  refine gq_meti (cc := cX4_next) (maxL := 5) (lv := [(0, .ref (ad 0))]) (by decide) rfl (Nat.le_of_ble_eq_true rfl) rfl ?_
  intro p e s m below meth c A Q ls H locs hx hb hml hown hts hnw hA hK hP hD hS hl hz
  refine lv_aload_n hx hb dX4_next_0 rfl (lv_at hl 0 rfl) ?_
  refine gq_callr (wsN := fun u => (wdH ad ck Pd Pm Ps Pg Pj u.1 u.2.1 u.2.2.1 u.2.2.2 Rt Rl Rr Ra Wt Wa Wk Wd Wn We Wb Hv)) (va_runV (As := []) (rest := []) ⟨hx, hb, hml, hown, hts⟩ (c_X4_bookNow l D ad ck H.size Pd Pm Ps Pg Pj Bt Bi Bf Br Rt Rl Rr Ra Wt Wa Wk Wd Wn We Wb Hv  _ hw) (cwV 0 hts gX4_next_X4_bookNow rfl rfl rfl (by decide +kernel) ⟨Nat.le_of_ble_eq_true rfl, Nat.le_of_ble_eq_true rfl⟩) (gq_preV hK [0, 1, 2, 3, 4, 5, 6, 7, 8, 9, 10] rfl hP hD [0, 1, 2, 3, 4, 5, 6, 7, 8, 9, 10, 11, 12, 13, 14, 15] rfl rfl hnw 4 0 rfl rfl) rfl rfl hl.1 rfl (lv_room (Nat.le_of_ble_eq_true rfl)) dX4_next_1 ⟨Nat.zero_le _, Nat.zero_le _⟩) hP hD hS hA [0, 1, 2, 3, 4, 5, 6, 7, 8, 9, 10, 11, 12, 13, 14, 15] [] rfl rfl rfl (by decide) [0, 1, 2, 3, 4, 5, 6, 7, 8, 9, 10, 11, 12, 13, 14, 15] rfl (fun _ => rfl) (fun u_ H locs hw hP hD hS => ?_)
  obtain ⟨Bt_1, Bi_2, Bf_3, Br_4⟩ := u_
  have hP : va_P D vwCl (wdH ad ck Pd Pm Ps Pg Pj Bt_1 Bi_2 Bf_3 Br_4 Rt Rl Rr Ra Wt Wa Wk Wd Wn We Wb Hv) H := hP
  have hD : va_D A (wdH ad ck Pd Pm Ps Pg Pj Bt_1 Bi_2 Bf_3 Br_4 Rt Rl Rr Ra Wt Wa Wk Wd Wn We Wb Hv) := hD
  refine lv_astore_n (lv' := [(1, .ref (ad 4)), (0, .ref (ad 0))]) hx hb dX4_next_4 rfl hl (by decide) rfl (fun ls hl => ?_)
  refine lv_aload_n hx hb dX4_next_5 rfl (lv_at hl 0 rfl) ?_
  refine gq_calli (wsN := fun _ => (wdH ad ck Pd Pm Ps Pg Pj Bt_1 Bi_2 Bf_3 Br_4 Rt Rl Rr Ra Wt Wa Wk Wd Wn We Wb Hv)) (va_runV (As := []) (rest := []) ⟨hx, hb, hml, hown, hts⟩ (c_X3_count l D ad ck H.size Bt_1 Bi_2 Bf_3 Br_4  _ hw) (cwV 0 hts gX4_next_X3_count rfl rfl rfl (by decide +kernel) ⟨Nat.le_of_ble_eq_true rfl, Nat.le_of_ble_eq_true rfl⟩) (gq_preV hK [2, 3] rfl hP hD [4, 5, 6] rfl rfl hnw 3 0 rfl rfl) rfl rfl hl.1 rfl (lv_room (Nat.le_of_ble_eq_true rfl)) dX4_next_6 ⟨Nat.zero_le _, Nat.zero_le _⟩) hP hD hS hA [4, 5, 6] [0, 1, 2, 3, 7, 8, 9, 10, 11, 12, 13, 14, 15] rfl rfl rfl (by decide) [0, 1, 2, 3, 13, 14, 15, 4, 5, 6, 7, 8, 9, 10, 11, 12] rfl (fun _ => rfl) (fun r5 _ H locs hw hP hD hS => ?_)
  refine lv_iconst (v := (-1)) hx hb dX4_next_9 (by decide) ?_
  refine lv_icmp_ne (tgt := 15) hx hb dX4_next_10 (by decide) (fun c6 => ?_) (fun c6 => ?_)
  · have hw := gq_f c6 hw
    refine lv_iconst (v := 0) hx hb dX4_next_15 (by decide) ?_
    refine lv_istore_n (lv' := [(2, .int 0), (1, .ref (ad 4)), (0, .ref (ad 0))]) hx hb dX4_next_16 rfl hl (by decide) rfl (fun ls hl => ?_)
    refine lv_iconst (v := 0) hx hb dX4_next_17 (by decide) ?_
    refine lv_istore_n (lv' := [(3, .int 0), (2, .int 0), (1, .ref (ad 4)), (0, .ref (ad 0))]) hx hb dX4_next_18 rfl hl (by decide) rfl (fun ls hl => ?_)
    have hL19 : ∀ (n : Nat) (x7 : Int32) (x8 : Int32) (H : Heap) (locs : List Loc), wl_X4_next_19 Wt Wd Wn Bt_1 Bi_2 Bf_3 Br_4 post n x7 x8 → va_P D vwCl (wdH ad ck Pd Pm Ps Pg Pj Bt_1 Bi_2 Bf_3 Br_4 Rt Rl Rr Ra Wt Wa Wk Wd Wn We Wb Hv) H → va_D A (wdH ad ck Pd Pm Ps Pg Pj Bt_1 Bi_2 Bf_3 Br_4 Rt Rl Rr Ra Wt Wa Wk Wd Wn We Wb Hv) → va_S A s.heap H locs → ∀ ls : Array Slot, lv_has ls 5 [(0, .ref (ad 0)), (1, .ref (ad 4)), (2, .int x7), (3, .int x8)] → W p l e { frames := 11, cells := 0, slots := 0, locals := 280 } s m ([.ref (ad 0)] : List Value).toArray below meth c H locs 0 0 Q (F0 m 19 ls []) := by
      intro n
      induction n with
      | zero =>
        intro x7 x8 H locs hw
        exact hw.elim
      | succ n ih =>
        intro x7 x8 H locs hw hP hD hS ls hl
        refine lv_iload_n hx hb dX4_next_19 rfl (lv_at hl 3 rfl) ?_
        refine lv_aload_n hx hb dX4_next_20 rfl (lv_at hl 1 rfl) ?_
        refine gq_calli (wsN := fun _ => (wdH ad ck Pd Pm Ps Pg Pj Bt_1 Bi_2 Bf_3 Br_4 Rt Rl Rr Ra Wt Wa Wk Wd Wn We Wb Hv)) (va_runV (As := []) (rest := [.int x8]) ⟨hx, hb, hml, hown, hts⟩ (c_X3_count l D ad ck H.size Bt_1 Bi_2 Bf_3 Br_4  _ hw) (cwV 0 hts gX4_next_X3_count rfl rfl rfl (by decide +kernel) ⟨Nat.le_of_ble_eq_true rfl, Nat.le_of_ble_eq_true rfl⟩) (gq_preV hK [2, 3] rfl hP hD [4, 5, 6] rfl rfl hnw 3 0 rfl rfl) rfl rfl hl.1 rfl (lv_room (Nat.le_of_ble_eq_true rfl)) dX4_next_21 ⟨Nat.zero_le _, Nat.zero_le _⟩) hP hD hS hA [4, 5, 6] [0, 1, 2, 3, 7, 8, 9, 10, 11, 12, 13, 14, 15] rfl rfl rfl (by decide) [0, 1, 2, 3, 13, 14, 15, 4, 5, 6, 7, 8, 9, 10, 11, 12] rfl (fun _ => rfl) (fun r9 _ H locs hw hP hD hS => ?_)
        refine lv_icmp_ge (tgt := 60) hx hb dX4_next_24 (by decide) (fun c10 => ?_) (fun c10 => ?_)
        · have hw := gq_t c10 hw
          refine lv_iload_n hx hb dX4_next_60 rfl (lv_at hl 2 rfl) ?_
          exact hz x7 (Bt_1, Bi_2, Bf_3, Br_4) _ _ _ _ dX4_next_61 hw hP hD hS
        · have hw := gq_f c10 hw
          refine lv_aload_n hx hb dX4_next_27 rfl (lv_at hl 1 rfl) ?_
          refine lv_iload_n hx hb dX4_next_28 rfl (lv_at hl 3 rfl) ?_
          refine gq_calli (wsN := fun _ => (wdH ad ck Pd Pm Ps Pg Pj Bt_1 Bi_2 Bf_3 Br_4 Rt Rl Rr Ra Wt Wa Wk Wd Wn We Wb Hv)) (va_runV (As := [.int x8]) (rest := []) ⟨hx, hb, hml, hown, hts⟩ (c_X3_trail l D ad ck H.size Bt_1 Bi_2 Bf_3 Br_4 x8 _ hw) (cwV 1 hts gX4_next_X3_trail rfl rfl rfl (by decide +kernel) ⟨Nat.le_of_ble_eq_true rfl, Nat.le_of_ble_eq_true rfl⟩) (gq_preV hK [2, 3] rfl hP hD [4, 5, 6] rfl rfl hnw 3 0 rfl rfl) rfl rfl hl.1 rfl (lv_room (Nat.le_of_ble_eq_true rfl)) dX4_next_29 ⟨Nat.zero_le _, Nat.zero_le _⟩) hP hD hS hA [4, 5, 6] [0, 1, 2, 3, 7, 8, 9, 10, 11, 12, 13, 14, 15] rfl rfl rfl (by decide) [0, 1, 2, 3, 13, 14, 15, 4, 5, 6, 7, 8, 9, 10, 11, 12] rfl (fun _ => rfl) (fun r11 _ H locs hw hP hD hS => ?_)
          refine lv_istore (lv' := [(4, .int r11), (0, .ref (ad 0)), (1, .ref (ad 4)), (2, .int x7), (3, .int x8)]) hx hb dX4_next_32 hl (by decide) rfl (fun ls hl => ?_)
          refine lv_iload_n hx hb dX4_next_34 rfl (lv_at hl 3 rfl) ?_
          refine lv_iload hx hb dX4_next_35 (lv_at hl 0 rfl) ?_
          refine lv_aload_n hx hb dX4_next_37 rfl (lv_at hl 1 rfl) ?_
          refine va_get (D := D) (ci := 4) (v := .ref (ad 12)) (C := RX4) (T := TX4) (N := 5) hx hb hts iX4_next_X4 hown hK hP 0 rfl rfl 3 (by decide) (hts (.fieldLink RX4 33 "DecoyHouse" "watch" "LDecoyHouse$Watch;") (by decide +kernel)) (fun _ h9 => h9) rfl dX4_next_38 ?_
          refine lv_iload hx hb dX4_next_41 (lv_at hl 0 rfl) ?_
          refine gq_calli (wsN := fun _ => (wdH ad ck Pd Pm Ps Pg Pj Bt_1 Bi_2 Bf_3 Br_4 Rt Rl Rr Ra Wt Wa Wk Wd Wn We Wb Hv)) (va_runV (As := [.int r11]) (rest := [.int r11, .int x7]) ⟨hx, hb, hml, hown, hts⟩ (c_X2_openFrom l D ad ck H.size Wt Wa Wk Wd Wn We Wb r11 _ hw) (cwV 1 hts gX4_next_X2_openFrom rfl rfl rfl (by decide +kernel) ⟨Nat.le_of_ble_eq_true rfl, Nat.le_of_ble_eq_true rfl⟩) (gq_preV hK [8, 9, 10] rfl hP hD [12, 13, 14, 15] rfl rfl hnw 2 0 rfl rfl) rfl rfl hl.1 rfl (lv_room (Nat.le_of_ble_eq_true rfl)) dX4_next_43 ⟨Nat.zero_le _, Nat.zero_le _⟩) hP hD hS hA [12, 13, 14, 15] [0, 1, 2, 3, 4, 5, 6, 7, 8, 9, 10, 11] rfl rfl rfl (by decide) [0, 1, 2, 3, 4, 5, 6, 7, 8, 9, 10, 11, 12, 13, 14, 15] rfl (fun _ => rfl) (fun r12 _ H locs hw hP hD hS => ?_)
          refine gq_calli (wsN := fun _ => (wdH ad ck Pd Pm Ps Pg Pj Bt_1 Bi_2 Bf_3 Br_4 Rt Rl Rr Ra Wt Wa Wk Wd Wn We Wb Hv)) (va_runS (As := [.int r11, .int r12]) (rest := [.int x7]) ⟨hx, hb, hml, hown, hts⟩ (c_X4_placeOn l D H.size r11 r12 _ hw) (va_cwS 2 hts gX4_next_X4_placeOn rfl rfl rfl (by decide +kernel) ⟨Nat.le_of_ble_eq_true rfl, Nat.le_of_ble_eq_true rfl⟩) (gq_preS hK [] rfl hP hD [] rfl rfl hnw) rfl rfl hl.1 rfl (lv_room (Nat.le_of_ble_eq_true rfl)) dX4_next_46 ⟨Nat.zero_le _, Nat.zero_le _⟩) hP hD hS hA [] [0, 1, 2, 3, 4, 5, 6, 7, 8, 9, 10, 11, 12, 13, 14, 15] rfl rfl rfl (by decide) [0, 1, 2, 3, 4, 5, 6, 7, 8, 9, 10, 11, 12, 13, 14, 15] rfl (fun _ => rfl) (fun r13 _ H locs hw hP hD hS => ?_)
          refine gq_calli (wsN := fun _ => (wdH ad ck Pd Pm Ps Pg Pj Bt_1 Bi_2 Bf_3 Br_4 Rt Rl Rr Ra Wt Wa Wk Wd Wn We Wb Hv)) (va_runS (As := [.int r13]) (rest := [.int x7]) ⟨hx, hb, hml, hown, hts⟩ (c_X4_setOf l D H.size r13 _ hw) (va_cwS 1 hts gX4_next_X4_setOf rfl rfl rfl (by decide +kernel) ⟨Nat.le_of_ble_eq_true rfl, Nat.le_of_ble_eq_true rfl⟩) (gq_preS hK [] rfl hP hD [] rfl rfl hnw) rfl rfl hl.1 rfl (lv_room (Nat.le_of_ble_eq_true rfl)) dX4_next_49 ⟨Nat.zero_le _, Nat.zero_le _⟩) hP hD hS hA [] [0, 1, 2, 3, 4, 5, 6, 7, 8, 9, 10, 11, 12, 13, 14, 15] rfl rfl rfl (by decide) [0, 1, 2, 3, 4, 5, 6, 7, 8, 9, 10, 11, 12, 13, 14, 15] rfl (fun _ => rfl) (fun r14 _ H locs hw hP hD hS => ?_)
          refine lv_ior hx hb dX4_next_52 ?_
          refine lv_topi (fun v15 ev15 => ?_)
          have hw := gq_at1 hw ev15
          refine lv_istore_n (lv' := [(2, .int v15), (4, .int r11), (0, .ref (ad 0)), (1, .ref (ad 4)), (3, .int x8)]) hx hb dX4_next_53 rfl hl (by decide) rfl (fun ls hl => ?_)
          obtain ⟨v16, ev16⟩ : ∃ y : Int32, y = x8 + 1 := ⟨_, rfl⟩
          have hw := gq_at1 hw ev16
          refine lv_iinc (v := v16) (lv' := [(3, .int v16), (2, .int v15), (4, .int r11), (0, .ref (ad 0)), (1, .ref (ad 4))]) hx hb dX4_next_54 hl (k := 4) rfl (by rw [ev16]; rfl) (by decide) rfl (fun ls hl => ?_)
          refine lv_goto (tgt := 19) hx hb dX4_next_57 (by decide) ?_
          exact ih v15 v16 _ _ hw hP hD hS ls (lv_sub hl [3, 4, 1, 0] rfl)
    obtain ⟨n, hw⟩ := hw
    exact hL19 n 0 0 _ _ hw hP hD hS ls (lv_sub hl [3, 2, 1, 0] rfl)
  · have hw := gq_t c6 hw
    refine lv_iconst (v := (-1)) hx hb dX4_next_13 (by decide) ?_
    exact hz (-1) (Bt_1, Bi_2, Bf_3, Br_4) _ _ _ _ dX4_next_14 hw hP hD hS

def wp_X4_tell  (Wt : Nat → Int32) (Wa : Nat → Int32) (Wk : Nat → Int32) (Wn : Int32) (We : Int32) (Wb : Int32) (post : Int32 → (Nat → Int32) → (Nat → Int32) → Int32 → Prop) : Prop :=
  wp_X2_endTale Wt Wa Wk Wn We Wb (fun (r1 : Int32) (Wa_2 : Nat → Int32) (Wk_3 : Nat → Int32) (Wn_4 : Int32) => post r1 Wa_2 Wk_3 Wn_4)

theorem iX4_tell_X4 : ∀ w ∈ wsX40, w ∈ wsX4_tell := by decide +kernel
set_option maxHeartbeats 4000000 in
set_option maxRecDepth 100000 in
theorem c_X4_tell (l : Launch) (D : va_G) (ad : Nat → Nat) (ck : Nat → ClassId) (sz : Nat) (Pd : Nat → Int32) (Pm : Nat → Int32) (Ps : Int32) (Pg : Int32) (Pj : Int32) (Bt : Nat → Int32) (Bi : Nat → Int32) (Bf : Int32) (Br : Int32) (Rt : Nat → Int32) (Rl : Nat → Int32) (Rr : Nat → Int32) (Ra : Nat → Int32) (Wt : Nat → Int32) (Wa : Nat → Int32) (Wk : Nat → Int32) (Wd : Int32) (Wn : Int32) (We : Int32) (Wb : Int32) (Hv : Int32)  (post : Int32 → (Nat → Int32) → (Nat → Int32) → Int32 → Prop) (hw : wp_X4_tell Wt Wa Wk Wn We Wb post) : Met l yX4_tell wsX4_tell { frames := 2, cells := 0, slots := 0, locals := 43 } (va_Pc [.ref (ad 0)] (gq_pre D (tyH ck) (wdH ad ck Pd Pm Ps Pg Pj Bt Bi Bf Br Rt Rl Rr Ra Wt Wa Wk Wd Wn We Wb Hv) sz)) (va_Qi (fun (r : Int32) (u : (Nat → Int32) × (Nat → Int32) × Int32) => post r u.1 u.2.1 u.2.2) (gq_at D (va_A (wdH ad ck Pd Pm Ps Pg Pj Bt Bi Bf Br Rt Rl Rr Ra Wt Wa Wk Wd Wn We Wb Hv) sz) (fun (u : (Nat → Int32) × (Nat → Int32) × Int32) => (wdH ad ck Pd Pm Ps Pg Pj Bt Bi Bf Br Rt Rl Rr Ra Wt u.1 u.2.1 Wd u.2.2 We Wb Hv))) (va_A (wdH ad ck Pd Pm Ps Pg Pj Bt Bi Bf Br Rt Rl Rr Ra Wt Wa Wk Wd Wn We Wb Hv) sz)) 0 0 (va_A (wdH ad ck Pd Pm Ps Pg Pj Bt Bi Bf Br Rt Rl Rr Ra Wt Wa Wk Wd Wn We Wb Hv) sz) := by
  refine gq_meti (cc := cX4_tell) (maxL := 1) (lv := [(0, .ref (ad 0))]) (by decide) rfl (Nat.le_of_ble_eq_true rfl) rfl ?_
  intro p e s m below meth c A Q ls H locs hx hb hml hown hts hnw hA hK hP hD hS hl hz
  refine lv_aload_n hx hb dX4_tell_0 rfl (lv_at hl 0 rfl) ?_
  refine va_get (D := D) (ci := 4) (v := .ref (ad 12)) (C := RX4) (T := TX4) (N := 5) hx hb hts iX4_tell_X4 hown hK hP 0 rfl rfl 3 (by decide) (hts (.fieldLink RX4 33 "DecoyHouse" "watch" "LDecoyHouse$Watch;") (by decide +kernel)) (fun _ h9 => h9) rfl dX4_tell_1 ?_
  refine gq_calli (wsN := fun u => (wdH ad ck Pd Pm Ps Pg Pj Bt Bi Bf Br Rt Rl Rr Ra Wt u.1 u.2.1 Wd u.2.2 We Wb Hv)) (va_runV (As := []) (rest := []) ⟨hx, hb, hml, hown, hts⟩ (c_X2_endTale l D ad ck H.size Wt Wa Wk Wd Wn We Wb  _ hw) (cwV 0 hts gX4_tell_X2_endTale rfl rfl rfl (by decide +kernel) ⟨Nat.le_of_ble_eq_true rfl, Nat.le_of_ble_eq_true rfl⟩) (gq_preV hK [8, 9, 10] rfl hP hD [12, 13, 14, 15] rfl rfl hnw 2 0 rfl rfl) rfl rfl hl.1 rfl (lv_room (Nat.le_of_ble_eq_true rfl)) dX4_tell_4 ⟨Nat.zero_le _, Nat.zero_le _⟩) hP hD hS hA [12, 13, 14, 15] [0, 1, 2, 3, 4, 5, 6, 7, 8, 9, 10, 11] rfl rfl rfl (by decide) [0, 1, 2, 3, 4, 5, 6, 7, 8, 9, 10, 11, 12, 13, 14, 15] rfl (fun _ => rfl) (fun r1 u_ H locs hw hP hD hS => ?_)
  obtain ⟨Wa_2, Wk_3, Wn_4⟩ := u_
  have hP : va_P D vwCl (wdH ad ck Pd Pm Ps Pg Pj Bt Bi Bf Br Rt Rl Rr Ra Wt Wa_2 Wk_3 Wd Wn_4 We Wb Hv) H := hP
  have hD : va_D A (wdH ad ck Pd Pm Ps Pg Pj Bt Bi Bf Br Rt Rl Rr Ra Wt Wa_2 Wk_3 Wd Wn_4 We Wb Hv) := hD
  exact hz r1 (Wa_2, Wk_3, Wn_4) _ _ _ _ dX4_tell_7 hw hP hD hS

def wp_X4_bear (p1 : Int32) (Wb : Int32) (post : Int32 → Int32 → Prop) : Prop :=
  (if p1 < 1 then post 0 Wb else (if p1 ≤ 9 then wp_X2_setBears p1 Wb (fun (Wb_3 : Int32) => post 1 Wb_3) else post 0 Wb))

theorem iX4_bear_X4 : ∀ w ∈ wsX40, w ∈ wsX4_bear := by decide +kernel
set_option maxHeartbeats 4000000 in
set_option maxRecDepth 100000 in
theorem c_X4_bear (l : Launch) (D : va_G) (ad : Nat → Nat) (ck : Nat → ClassId) (sz : Nat) (Pd : Nat → Int32) (Pm : Nat → Int32) (Ps : Int32) (Pg : Int32) (Pj : Int32) (Bt : Nat → Int32) (Bi : Nat → Int32) (Bf : Int32) (Br : Int32) (Rt : Nat → Int32) (Rl : Nat → Int32) (Rr : Nat → Int32) (Ra : Nat → Int32) (Wt : Nat → Int32) (Wa : Nat → Int32) (Wk : Nat → Int32) (Wd : Int32) (Wn : Int32) (We : Int32) (Wb : Int32) (Hv : Int32) (p1 : Int32) (post : Int32 → Int32 → Prop) (hw : wp_X4_bear p1 Wb post) : Met l yX4_bear wsX4_bear { frames := 1, cells := 0, slots := 0, locals := 21 } (va_Pc [.ref (ad 0), .int p1] (gq_pre D (tyH ck) (wdH ad ck Pd Pm Ps Pg Pj Bt Bi Bf Br Rt Rl Rr Ra Wt Wa Wk Wd Wn We Wb Hv) sz)) (va_Qi (fun (r : Int32) (u : Int32) => post r u) (gq_at D (va_A (wdH ad ck Pd Pm Ps Pg Pj Bt Bi Bf Br Rt Rl Rr Ra Wt Wa Wk Wd Wn We Wb Hv) sz) (fun (u : Int32) => (wdH ad ck Pd Pm Ps Pg Pj Bt Bi Bf Br Rt Rl Rr Ra Wt Wa Wk Wd Wn We u Hv))) (va_A (wdH ad ck Pd Pm Ps Pg Pj Bt Bi Bf Br Rt Rl Rr Ra Wt Wa Wk Wd Wn We Wb Hv) sz)) 0 0 (va_A (wdH ad ck Pd Pm Ps Pg Pj Bt Bi Bf Br Rt Rl Rr Ra Wt Wa Wk Wd Wn We Wb Hv) sz) := by
  refine gq_metz (cc := cX4_bear) (maxL := 2) (lv := [(0, .ref (ad 0)), (1, .int p1)]) (by decide) rfl (Nat.le_of_ble_eq_true rfl) rfl ?_
  intro p e s m below meth c A Q ls H locs hx hb hml hown hts hnw hA hK hP hD hS hl hz
  refine lv_iload_n hx hb dX4_bear_0 rfl (lv_at hl 1 rfl) ?_
  refine lv_iconst (v := 1) hx hb dX4_bear_1 (by decide) ?_
  refine lv_icmp_lt (tgt := 11) hx hb dX4_bear_2 (by decide) (fun c1 => ?_) (fun c1 => ?_)
  · have hw := gq_t c1 hw
    refine lv_iconst (v := 0) hx hb dX4_bear_11 (by decide) ?_
    exact hz 0 Wb _ _ _ _ dX4_bear_12 gq_zb0 hw hP hD hS
  · have hw := gq_f c1 hw
    refine lv_iload_n hx hb dX4_bear_5 rfl (lv_at hl 1 rfl) ?_
    refine lv_bipush (v := 9) hx hb dX4_bear_6 (by decide) ?_
    refine lv_icmp_le (tgt := 13) hx hb dX4_bear_8 (by decide) (fun c2 => ?_) (fun c2 => ?_)
    · have hw := gq_t c2 hw
      refine lv_aload_n hx hb dX4_bear_13 rfl (lv_at hl 0 rfl) ?_
      refine va_get (D := D) (ci := 4) (v := .ref (ad 12)) (C := RX4) (T := TX4) (N := 5) hx hb hts iX4_bear_X4 hown hK hP 0 rfl rfl 3 (by decide) (hts (.fieldLink RX4 33 "DecoyHouse" "watch" "LDecoyHouse$Watch;") (by decide +kernel)) (fun _ h9 => h9) rfl dX4_bear_14 ?_
      refine lv_iload_n hx hb dX4_bear_17 rfl (lv_at hl 1 rfl) ?_
      refine gq_callv (wsN := fun u => (wdH ad ck Pd Pm Ps Pg Pj Bt Bi Bf Br Rt Rl Rr Ra Wt Wa Wk Wd Wn We u Hv)) (va_runV (As := [.int p1]) (rest := []) ⟨hx, hb, hml, hown, hts⟩ (c_X2_setBears l D ad ck H.size Wt Wa Wk Wd Wn We Wb p1 _ hw) (cwV 1 hts gX4_bear_X2_setBears rfl rfl rfl (by decide +kernel) ⟨Nat.le_of_ble_eq_true rfl, Nat.le_of_ble_eq_true rfl⟩) (gq_preV hK [8, 9, 10] rfl hP hD [12, 13, 14, 15] rfl rfl hnw 2 0 rfl rfl) rfl rfl hl.1 rfl (lv_room (Nat.le_of_ble_eq_true rfl)) dX4_bear_18 ⟨Nat.zero_le _, Nat.zero_le _⟩) hP hD hS hA [12, 13, 14, 15] [0, 1, 2, 3, 4, 5, 6, 7, 8, 9, 10, 11] rfl rfl rfl (by decide) [0, 1, 2, 3, 4, 5, 6, 7, 8, 9, 10, 11, 12, 13, 14, 15] rfl (fun _ => rfl) (fun Wb_3 H locs hw hP hD hS => ?_)
      have hP : va_P D vwCl (wdH ad ck Pd Pm Ps Pg Pj Bt Bi Bf Br Rt Rl Rr Ra Wt Wa Wk Wd Wn We Wb_3 Hv) H := hP
      have hD : va_D A (wdH ad ck Pd Pm Ps Pg Pj Bt Bi Bf Br Rt Rl Rr Ra Wt Wa Wk Wd Wn We Wb_3 Hv) := hD
      refine lv_iconst (v := 1) hx hb dX4_bear_21 (by decide) ?_
      exact hz 1 Wb_3 _ _ _ _ dX4_bear_22 gq_zb1 hw hP hD hS
    · have hw := gq_f c2 hw
      refine lv_iconst (v := 0) hx hb dX4_bear_11 (by decide) ?_
      exact hz 0 Wb _ _ _ _ dX4_bear_12 gq_zb0 hw hP hD hS

def wp_X4_tales (p1 : Int32) (Ps : Int32) (Wa : Nat → Int32) (post : Int32 → Prop) : Prop :=
  wp_X0_hasPlace p1 Ps (fun (r1 : Int32) => (if r1 = 0 then post (-1) else wp_X2_talesOf p1 Wa (fun (r3 : Int32) => post r3)))

theorem iX4_tales_X4 : ∀ w ∈ wsX40, w ∈ wsX4_tales := by decide +kernel
set_option maxHeartbeats 4000000 in
set_option maxRecDepth 100000 in
theorem c_X4_tales (l : Launch) (D : va_G) (ad : Nat → Nat) (ck : Nat → ClassId) (sz : Nat) (Pd : Nat → Int32) (Pm : Nat → Int32) (Ps : Int32) (Pg : Int32) (Pj : Int32) (Bt : Nat → Int32) (Bi : Nat → Int32) (Bf : Int32) (Br : Int32) (Rt : Nat → Int32) (Rl : Nat → Int32) (Rr : Nat → Int32) (Ra : Nat → Int32) (Wt : Nat → Int32) (Wa : Nat → Int32) (Wk : Nat → Int32) (Wd : Int32) (Wn : Int32) (We : Int32) (Wb : Int32) (Hv : Int32) (p1 : Int32) (post : Int32 → Prop) (hw : wp_X4_tales p1 Ps Wa post) : Met l yX4_tales wsX4_tales { frames := 1, cells := 0, slots := 0, locals := 21 } (va_Pc [.ref (ad 0), .int p1] (gq_pre D (tyH ck) (wdH ad ck Pd Pm Ps Pg Pj Bt Bi Bf Br Rt Rl Rr Ra Wt Wa Wk Wd Wn We Wb Hv) sz)) (va_Qi (fun (r : Int32) (_ : Unit) => post r ) (gq_at D (va_A (wdH ad ck Pd Pm Ps Pg Pj Bt Bi Bf Br Rt Rl Rr Ra Wt Wa Wk Wd Wn We Wb Hv) sz) (fun (_ : Unit) => (wdH ad ck Pd Pm Ps Pg Pj Bt Bi Bf Br Rt Rl Rr Ra Wt Wa Wk Wd Wn We Wb Hv))) (va_A (wdH ad ck Pd Pm Ps Pg Pj Bt Bi Bf Br Rt Rl Rr Ra Wt Wa Wk Wd Wn We Wb Hv) sz)) 0 0 (va_A (wdH ad ck Pd Pm Ps Pg Pj Bt Bi Bf Br Rt Rl Rr Ra Wt Wa Wk Wd Wn We Wb Hv) sz) := by
  refine gq_meti (cc := cX4_tales) (maxL := 2) (lv := [(0, .ref (ad 0)), (1, .int p1)]) (by decide) rfl (Nat.le_of_ble_eq_true rfl) rfl ?_
  intro p e s m below meth c A Q ls H locs hx hb hml hown hts hnw hA hK hP hD hS hl hz
  refine lv_aload_n hx hb dX4_tales_0 rfl (lv_at hl 0 rfl) ?_
  refine va_get (D := D) (ci := 4) (v := .ref (ad 1)) (C := RX4) (T := TX4) (N := 5) hx hb hts iX4_tales_X4 hown hK hP 0 rfl rfl 0 (by decide) (hts (.fieldLink RX4 12 "DecoyHouse" "plan" "LDecoyHouse$Plan;") (by decide +kernel)) (fun _ h9 => h9) rfl dX4_tales_1 ?_
  refine lv_iload_n hx hb dX4_tales_4 rfl (lv_at hl 1 rfl) ?_
  refine gq_calli (wsN := fun _ => (wdH ad ck Pd Pm Ps Pg Pj Bt Bi Bf Br Rt Rl Rr Ra Wt Wa Wk Wd Wn We Wb Hv)) (va_runV (As := [.int p1]) (rest := []) ⟨hx, hb, hml, hown, hts⟩ (c_X0_hasPlace l D ad ck H.size Pd Pm Ps Pg Pj p1 _ hw) (cwV 1 hts gX4_tales_X0_hasPlace rfl rfl rfl (by decide +kernel) ⟨Nat.le_of_ble_eq_true rfl, Nat.le_of_ble_eq_true rfl⟩) (gq_preV hK [0, 1] rfl hP hD [1, 2, 3] rfl rfl hnw 0 0 rfl rfl) rfl rfl hl.1 rfl (lv_room (Nat.le_of_ble_eq_true rfl)) dX4_tales_5 ⟨Nat.zero_le _, Nat.zero_le _⟩) hP hD hS hA [1, 2, 3] [0, 4, 5, 6, 7, 8, 9, 10, 11, 12, 13, 14, 15] rfl rfl rfl (by decide) [0, 13, 14, 15, 1, 2, 3, 4, 5, 6, 7, 8, 9, 10, 11, 12] rfl (fun _ => rfl) (fun r1 _ H locs hw hP hD hS => ?_)
  refine lv_if_eq (tgt := 22) hx hb dX4_tales_8 (by decide) (fun c2 => ?_) (fun c2 => ?_)
  · have hw := gq_t c2 hw
    refine lv_iconst (v := (-1)) hx hb dX4_tales_22 (by decide) ?_
    exact hz (-1) () _ _ _ _ dX4_tales_23 hw hP hD hS
  · have hw := gq_f c2 hw
    refine lv_aload_n hx hb dX4_tales_11 rfl (lv_at hl 0 rfl) ?_
    refine va_get (D := D) (ci := 4) (v := .ref (ad 12)) (C := RX4) (T := TX4) (N := 5) hx hb hts iX4_tales_X4 hown hK hP 0 rfl rfl 3 (by decide) (hts (.fieldLink RX4 33 "DecoyHouse" "watch" "LDecoyHouse$Watch;") (by decide +kernel)) (fun _ h9 => h9) rfl dX4_tales_12 ?_
    refine lv_iload_n hx hb dX4_tales_15 rfl (lv_at hl 1 rfl) ?_
    refine gq_calli (wsN := fun _ => (wdH ad ck Pd Pm Ps Pg Pj Bt Bi Bf Br Rt Rl Rr Ra Wt Wa Wk Wd Wn We Wb Hv)) (va_runV (As := [.int p1]) (rest := []) ⟨hx, hb, hml, hown, hts⟩ (c_X2_talesOf l D ad ck H.size Wt Wa Wk Wd Wn We Wb p1 _ hw) (cwV 1 hts gX4_tales_X2_talesOf rfl rfl rfl (by decide +kernel) ⟨Nat.le_of_ble_eq_true rfl, Nat.le_of_ble_eq_true rfl⟩) (gq_preV hK [8, 9, 10] rfl hP hD [12, 13, 14, 15] rfl rfl hnw 2 0 rfl rfl) rfl rfl hl.1 rfl (lv_room (Nat.le_of_ble_eq_true rfl)) dX4_tales_16 ⟨Nat.zero_le _, Nat.zero_le _⟩) hP hD hS hA [12, 13, 14, 15] [0, 1, 2, 3, 4, 5, 6, 7, 8, 9, 10, 11] rfl rfl rfl (by decide) [0, 1, 2, 3, 4, 5, 6, 7, 8, 9, 10, 11, 12, 13, 14, 15] rfl (fun _ => rfl) (fun r3 _ H locs hw hP hD hS => ?_)
    refine lv_goto (tgt := 23) hx hb dX4_tales_19 (by decide) ?_
    exact hz r3 () _ _ _ _ dX4_tales_23 hw hP hD hS

def wp_X4_day  (We : Int32) (post : Int32 → Int32 → Prop) : Prop :=
  wp_X2_passDay We (fun (r1 : Int32) (We_2 : Int32) => post r1 We_2)

theorem iX4_day_X4 : ∀ w ∈ wsX40, w ∈ wsX4_day := by decide +kernel
set_option maxHeartbeats 4000000 in
set_option maxRecDepth 100000 in
theorem c_X4_day (l : Launch) (D : va_G) (ad : Nat → Nat) (ck : Nat → ClassId) (sz : Nat) (Pd : Nat → Int32) (Pm : Nat → Int32) (Ps : Int32) (Pg : Int32) (Pj : Int32) (Bt : Nat → Int32) (Bi : Nat → Int32) (Bf : Int32) (Br : Int32) (Rt : Nat → Int32) (Rl : Nat → Int32) (Rr : Nat → Int32) (Ra : Nat → Int32) (Wt : Nat → Int32) (Wa : Nat → Int32) (Wk : Nat → Int32) (Wd : Int32) (Wn : Int32) (We : Int32) (Wb : Int32) (Hv : Int32)  (post : Int32 → Int32 → Prop) (hw : wp_X4_day We post) : Met l yX4_day wsX4_day { frames := 1, cells := 0, slots := 0, locals := 20 } (va_Pc [.ref (ad 0)] (gq_pre D (tyH ck) (wdH ad ck Pd Pm Ps Pg Pj Bt Bi Bf Br Rt Rl Rr Ra Wt Wa Wk Wd Wn We Wb Hv) sz)) (va_Qi (fun (r : Int32) (u : Int32) => post r u) (gq_at D (va_A (wdH ad ck Pd Pm Ps Pg Pj Bt Bi Bf Br Rt Rl Rr Ra Wt Wa Wk Wd Wn We Wb Hv) sz) (fun (u : Int32) => (wdH ad ck Pd Pm Ps Pg Pj Bt Bi Bf Br Rt Rl Rr Ra Wt Wa Wk Wd Wn u Wb Hv))) (va_A (wdH ad ck Pd Pm Ps Pg Pj Bt Bi Bf Br Rt Rl Rr Ra Wt Wa Wk Wd Wn We Wb Hv) sz)) 0 0 (va_A (wdH ad ck Pd Pm Ps Pg Pj Bt Bi Bf Br Rt Rl Rr Ra Wt Wa Wk Wd Wn We Wb Hv) sz) := by
  refine gq_meti (cc := cX4_day) (maxL := 1) (lv := [(0, .ref (ad 0))]) (by decide) rfl (Nat.le_of_ble_eq_true rfl) rfl ?_
  intro p e s m below meth c A Q ls H locs hx hb hml hown hts hnw hA hK hP hD hS hl hz
  refine lv_aload_n hx hb dX4_day_0 rfl (lv_at hl 0 rfl) ?_
  refine va_get (D := D) (ci := 4) (v := .ref (ad 12)) (C := RX4) (T := TX4) (N := 5) hx hb hts iX4_day_X4 hown hK hP 0 rfl rfl 3 (by decide) (hts (.fieldLink RX4 33 "DecoyHouse" "watch" "LDecoyHouse$Watch;") (by decide +kernel)) (fun _ h9 => h9) rfl dX4_day_1 ?_
  refine gq_calli (wsN := fun u => (wdH ad ck Pd Pm Ps Pg Pj Bt Bi Bf Br Rt Rl Rr Ra Wt Wa Wk Wd Wn u Wb Hv)) (va_runV (As := []) (rest := []) ⟨hx, hb, hml, hown, hts⟩ (c_X2_passDay l D ad ck H.size Wt Wa Wk Wd Wn We Wb  _ hw) (cwV 0 hts gX4_day_X2_passDay rfl rfl rfl (by decide +kernel) ⟨Nat.le_of_ble_eq_true rfl, Nat.le_of_ble_eq_true rfl⟩) (gq_preV hK [8, 9, 10] rfl hP hD [12, 13, 14, 15] rfl rfl hnw 2 0 rfl rfl) rfl rfl hl.1 rfl (lv_room (Nat.le_of_ble_eq_true rfl)) dX4_day_4 ⟨Nat.zero_le _, Nat.zero_le _⟩) hP hD hS hA [12, 13, 14, 15] [0, 1, 2, 3, 4, 5, 6, 7, 8, 9, 10, 11] rfl rfl rfl (by decide) [0, 1, 2, 3, 4, 5, 6, 7, 8, 9, 10, 11, 12, 13, 14, 15] rfl (fun _ => rfl) (fun r1 We_2 H locs hw hP hD hS => ?_)
  have hP : va_P D vwCl (wdH ad ck Pd Pm Ps Pg Pj Bt Bi Bf Br Rt Rl Rr Ra Wt Wa Wk Wd Wn We_2 Wb Hv) H := hP
  have hD : va_D A (wdH ad ck Pd Pm Ps Pg Pj Bt Bi Bf Br Rt Rl Rr Ra Wt Wa Wk Wd Wn We_2 Wb Hv) := hD
  exact hz r1 We_2 _ _ _ _ dX4_day_7 hw hP hD hS

def wp_X4_isBetterMove (p1 : Int32) (p2 : Int32) (Bi : Nat → Int32) (Bf : Int32) (Wd : Int32) (post : Int32 → Prop) : Prop :=
  wp_X2_decoySet Wd (fun (r1 : Int32) => wp_J6_bitCount_0f7a4 (p1 &&& r1) (fun (r2 : Int32) => wp_J6_bitCount_0f7a4 (p2 &&& r1) (fun (r3 : Int32) => gq_nm (r2 - r3) (fun v4 : Int32 => (if v4 = 0 then wp_X3_countTouchedBy p1 Bi Bf (fun (r6 : Int32) => wp_X3_countTouchedBy p2 Bi Bf (fun (r7 : Int32) => (if r6 ≤ r7 then post 0 else post 1))) else (if v4 ≤ 0 then post 0 else post 1))))))

theorem iX4_isBetterMove_X4 : ∀ w ∈ wsX40, w ∈ wsX4_isBetterMove := by decide +kernel
set_option maxHeartbeats 4000000 in
set_option maxRecDepth 100000 in
theorem c_X4_isBetterMove (l : Launch) (D : va_G) (ad : Nat → Nat) (ck : Nat → ClassId) (sz : Nat) (Pd : Nat → Int32) (Pm : Nat → Int32) (Ps : Int32) (Pg : Int32) (Pj : Int32) (Bt : Nat → Int32) (Bi : Nat → Int32) (Bf : Int32) (Br : Int32) (Rt : Nat → Int32) (Rl : Nat → Int32) (Rr : Nat → Int32) (Ra : Nat → Int32) (Wt : Nat → Int32) (Wa : Nat → Int32) (Wk : Nat → Int32) (Wd : Int32) (Wn : Int32) (We : Int32) (Wb : Int32) (Hv : Int32) (p1 : Int32) (p2 : Int32) (post : Int32 → Prop) (hw : wp_X4_isBetterMove p1 p2 Bi Bf Wd post) : Met l yX4_isBetterMove wsX4_isBetterMove { frames := 1, cells := 0, slots := 0, locals := 21 } (va_Pc [.ref (ad 0), .int p1, .int p2] (gq_pre D (tyH ck) (wdH ad ck Pd Pm Ps Pg Pj Bt Bi Bf Br Rt Rl Rr Ra Wt Wa Wk Wd Wn We Wb Hv) sz)) (va_Qi (fun (r : Int32) (_ : Unit) => post r ) (gq_at D (va_A (wdH ad ck Pd Pm Ps Pg Pj Bt Bi Bf Br Rt Rl Rr Ra Wt Wa Wk Wd Wn We Wb Hv) sz) (fun (_ : Unit) => (wdH ad ck Pd Pm Ps Pg Pj Bt Bi Bf Br Rt Rl Rr Ra Wt Wa Wk Wd Wn We Wb Hv))) (va_A (wdH ad ck Pd Pm Ps Pg Pj Bt Bi Bf Br Rt Rl Rr Ra Wt Wa Wk Wd Wn We Wb Hv) sz)) 0 0 (va_A (wdH ad ck Pd Pm Ps Pg Pj Bt Bi Bf Br Rt Rl Rr Ra Wt Wa Wk Wd Wn We Wb Hv) sz) := by
  refine gq_metz (cc := cX4_isBetterMove) (maxL := 5) (lv := [(0, .ref (ad 0)), (1, .int p1), (2, .int p2)]) (by decide) rfl (Nat.le_of_ble_eq_true rfl) rfl ?_
  intro p e s m below meth c A Q ls H locs hx hb hml hown hts hnw hA hK hP hD hS hl hz
  refine lv_aload_n hx hb dX4_isBetterMove_0 rfl (lv_at hl 0 rfl) ?_
  refine va_get (D := D) (ci := 4) (v := .ref (ad 12)) (C := RX4) (T := TX4) (N := 5) hx hb hts iX4_isBetterMove_X4 hown hK hP 0 rfl rfl 3 (by decide) (hts (.fieldLink RX4 33 "DecoyHouse" "watch" "LDecoyHouse$Watch;") (by decide +kernel)) (fun _ h9 => h9) rfl dX4_isBetterMove_1 ?_
  refine gq_calli (wsN := fun _ => (wdH ad ck Pd Pm Ps Pg Pj Bt Bi Bf Br Rt Rl Rr Ra Wt Wa Wk Wd Wn We Wb Hv)) (va_runV (As := []) (rest := []) ⟨hx, hb, hml, hown, hts⟩ (c_X2_decoySet l D ad ck H.size Wt Wa Wk Wd Wn We Wb  _ hw) (cwV 0 hts gX4_isBetterMove_X2_decoySet rfl rfl rfl (by decide +kernel) ⟨Nat.le_of_ble_eq_true rfl, Nat.le_of_ble_eq_true rfl⟩) (gq_preV hK [8, 9, 10] rfl hP hD [12, 13, 14, 15] rfl rfl hnw 2 0 rfl rfl) rfl rfl hl.1 rfl (lv_room (Nat.le_of_ble_eq_true rfl)) dX4_isBetterMove_4 ⟨Nat.zero_le _, Nat.zero_le _⟩) hP hD hS hA [12, 13, 14, 15] [0, 1, 2, 3, 4, 5, 6, 7, 8, 9, 10, 11] rfl rfl rfl (by decide) [0, 1, 2, 3, 4, 5, 6, 7, 8, 9, 10, 11, 12, 13, 14, 15] rfl (fun _ => rfl) (fun r1 _ H locs hw hP hD hS => ?_)
  refine lv_istore_n (lv' := [(3, .int r1), (0, .ref (ad 0)), (1, .int p1), (2, .int p2)]) hx hb dX4_isBetterMove_7 rfl hl (by decide) rfl (fun ls hl => ?_)
  refine lv_iload_n hx hb dX4_isBetterMove_8 rfl (lv_at hl 2 rfl) ?_
  refine lv_iload_n hx hb dX4_isBetterMove_9 rfl (lv_at hl 0 rfl) ?_
  refine lv_iand hx hb dX4_isBetterMove_10 ?_
  refine gq_calli (wsN := fun _ => (wdH ad ck Pd Pm Ps Pg Pj Bt Bi Bf Br Rt Rl Rr Ra Wt Wa Wk Wd Wn We Wb Hv)) (va_runS (As := [.int (p1 &&& r1)]) (rest := []) ⟨hx, hb, hml, hown, hts⟩ (c_J6_bitCount_0f7a4 l D H.size (p1 &&& r1) _ hw) (va_cwS 1 hts gX4_isBetterMove_J6_bitCount_0f7a4 rfl rfl rfl (by decide +kernel) ⟨Nat.le_of_ble_eq_true rfl, Nat.le_of_ble_eq_true rfl⟩) (gq_preS hK [] rfl hP hD [] rfl rfl hnw) rfl rfl hl.1 rfl (lv_room (Nat.le_of_ble_eq_true rfl)) dX4_isBetterMove_11 ⟨Nat.zero_le _, Nat.zero_le _⟩) hP hD hS hA [] [0, 1, 2, 3, 4, 5, 6, 7, 8, 9, 10, 11, 12, 13, 14, 15] rfl rfl rfl (by decide) [0, 1, 2, 3, 4, 5, 6, 7, 8, 9, 10, 11, 12, 13, 14, 15] rfl (fun _ => rfl) (fun r2 _ H locs hw hP hD hS => ?_)
  refine lv_iload_n hx hb dX4_isBetterMove_14 rfl (lv_at hl 3 rfl) ?_
  refine lv_iload_n hx hb dX4_isBetterMove_15 rfl (lv_at hl 0 rfl) ?_
  refine lv_iand hx hb dX4_isBetterMove_16 ?_
  refine gq_calli (wsN := fun _ => (wdH ad ck Pd Pm Ps Pg Pj Bt Bi Bf Br Rt Rl Rr Ra Wt Wa Wk Wd Wn We Wb Hv)) (va_runS (As := [.int (p2 &&& r1)]) (rest := [.int r2]) ⟨hx, hb, hml, hown, hts⟩ (c_J6_bitCount_0f7a4 l D H.size (p2 &&& r1) _ hw) (va_cwS 1 hts gX4_isBetterMove_J6_bitCount_0f7a4 rfl rfl rfl (by decide +kernel) ⟨Nat.le_of_ble_eq_true rfl, Nat.le_of_ble_eq_true rfl⟩) (gq_preS hK [] rfl hP hD [] rfl rfl hnw) rfl rfl hl.1 rfl (lv_room (Nat.le_of_ble_eq_true rfl)) dX4_isBetterMove_17 ⟨Nat.zero_le _, Nat.zero_le _⟩) hP hD hS hA [] [0, 1, 2, 3, 4, 5, 6, 7, 8, 9, 10, 11, 12, 13, 14, 15] rfl rfl rfl (by decide) [0, 1, 2, 3, 4, 5, 6, 7, 8, 9, 10, 11, 12, 13, 14, 15] rfl (fun _ => rfl) (fun r3 _ H locs hw hP hD hS => ?_)
  refine lv_isub hx hb dX4_isBetterMove_20 ?_
  refine lv_topi (fun v4 ev4 => ?_)
  have hw := gq_at1 hw ev4
  refine lv_istore (lv' := [(4, .int v4), (3, .int r1), (0, .ref (ad 0)), (1, .int p1), (2, .int p2)]) hx hb dX4_isBetterMove_21 hl (by decide) rfl (fun ls hl => ?_)
  refine lv_iload hx hb dX4_isBetterMove_23 (lv_at hl 0 rfl) ?_
  refine lv_if_eq (tgt := 39) hx hb dX4_isBetterMove_25 (by decide) (fun c5 => ?_) (fun c5 => ?_)
  · have hw := gq_t c5 hw
    refine lv_aload_n hx hb dX4_isBetterMove_39 rfl (lv_at hl 2 rfl) ?_
    refine va_get (D := D) (ci := 4) (v := .ref (ad 4)) (C := RX4) (T := TX4) (N := 5) hx hb hts iX4_isBetterMove_X4 hown hK hP 0 rfl rfl 1 (by decide) (hts (.fieldLink RX4 19 "DecoyHouse" "book" "LDecoyHouse$WayBook;") (by decide +kernel)) (fun _ h9 => h9) rfl dX4_isBetterMove_40 ?_
    refine lv_iload_n hx hb dX4_isBetterMove_43 rfl (lv_at hl 3 rfl) ?_
    refine gq_calli (wsN := fun _ => (wdH ad ck Pd Pm Ps Pg Pj Bt Bi Bf Br Rt Rl Rr Ra Wt Wa Wk Wd Wn We Wb Hv)) (va_runV (As := [.int p1]) (rest := []) ⟨hx, hb, hml, hown, hts⟩ (c_X3_countTouchedBy l D ad ck H.size Bt Bi Bf Br p1 _ hw) (cwV 1 hts gX4_isBetterMove_X3_countTouchedBy rfl rfl rfl (by decide +kernel) ⟨Nat.le_of_ble_eq_true rfl, Nat.le_of_ble_eq_true rfl⟩) (gq_preV hK [2, 3] rfl hP hD [4, 5, 6] rfl rfl hnw 3 0 rfl rfl) rfl rfl hl.1 rfl (lv_room (Nat.le_of_ble_eq_true rfl)) dX4_isBetterMove_44 ⟨Nat.zero_le _, Nat.zero_le _⟩) hP hD hS hA [4, 5, 6] [0, 1, 2, 3, 7, 8, 9, 10, 11, 12, 13, 14, 15] rfl rfl rfl (by decide) [0, 1, 2, 3, 13, 14, 15, 4, 5, 6, 7, 8, 9, 10, 11, 12] rfl (fun _ => rfl) (fun r6 _ H locs hw hP hD hS => ?_)
    refine lv_aload_n hx hb dX4_isBetterMove_47 rfl (lv_at hl 2 rfl) ?_
    refine va_get (D := D) (ci := 4) (v := .ref (ad 4)) (C := RX4) (T := TX4) (N := 5) hx hb hts iX4_isBetterMove_X4 hown hK hP 0 rfl rfl 1 (by decide) (hts (.fieldLink RX4 19 "DecoyHouse" "book" "LDecoyHouse$WayBook;") (by decide +kernel)) (fun _ h9 => h9) rfl dX4_isBetterMove_48 ?_
    refine lv_iload_n hx hb dX4_isBetterMove_51 rfl (lv_at hl 4 rfl) ?_
    refine gq_calli (wsN := fun _ => (wdH ad ck Pd Pm Ps Pg Pj Bt Bi Bf Br Rt Rl Rr Ra Wt Wa Wk Wd Wn We Wb Hv)) (va_runV (As := [.int p2]) (rest := [.int r6]) ⟨hx, hb, hml, hown, hts⟩ (c_X3_countTouchedBy l D ad ck H.size Bt Bi Bf Br p2 _ hw) (cwV 1 hts gX4_isBetterMove_X3_countTouchedBy rfl rfl rfl (by decide +kernel) ⟨Nat.le_of_ble_eq_true rfl, Nat.le_of_ble_eq_true rfl⟩) (gq_preV hK [2, 3] rfl hP hD [4, 5, 6] rfl rfl hnw 3 0 rfl rfl) rfl rfl hl.1 rfl (lv_room (Nat.le_of_ble_eq_true rfl)) dX4_isBetterMove_52 ⟨Nat.zero_le _, Nat.zero_le _⟩) hP hD hS hA [4, 5, 6] [0, 1, 2, 3, 7, 8, 9, 10, 11, 12, 13, 14, 15] rfl rfl rfl (by decide) [0, 1, 2, 3, 13, 14, 15, 4, 5, 6, 7, 8, 9, 10, 11, 12] rfl (fun _ => rfl) (fun r7 _ H locs hw hP hD hS => ?_)
    refine lv_icmp_le (tgt := 62) hx hb dX4_isBetterMove_55 (by decide) (fun c8 => ?_) (fun c8 => ?_)
    · have hw := gq_t c8 hw
      refine lv_iconst (v := 0) hx hb dX4_isBetterMove_62 (by decide) ?_
      exact hz 0 () _ _ _ _ dX4_isBetterMove_63 gq_zb0 hw hP hD hS
    · have hw := gq_f c8 hw
      refine lv_iconst (v := 1) hx hb dX4_isBetterMove_58 (by decide) ?_
      refine lv_goto (tgt := 63) hx hb dX4_isBetterMove_59 (by decide) ?_
      exact hz 1 () _ _ _ _ dX4_isBetterMove_63 gq_zb1 hw hP hD hS
  · have hw := gq_f c5 hw
    refine lv_iload hx hb dX4_isBetterMove_28 (lv_at hl 0 rfl) ?_
    refine lv_if_le (tgt := 37) hx hb dX4_isBetterMove_30 (by decide) (fun c9 => ?_) (fun c9 => ?_)
    · have hw := gq_t c9 hw
      refine lv_iconst (v := 0) hx hb dX4_isBetterMove_37 (by decide) ?_
      exact hz 0 () _ _ _ _ dX4_isBetterMove_38 gq_zb0 hw hP hD hS
    · have hw := gq_f c9 hw
      refine lv_iconst (v := 1) hx hb dX4_isBetterMove_33 (by decide) ?_
      refine lv_goto (tgt := 38) hx hb dX4_isBetterMove_34 (by decide) ?_
      exact hz 1 () _ _ _ _ dX4_isBetterMove_38 gq_zb1 hw hP hD hS

def wl_X4_findMove_23 (p1 : Int32) (p2 : Int32) (Bi : Nat → Int32) (Bf : Int32) (Ra : Nat → Int32) (Wd : Int32) (r2 : Int32) (r3 : Int32)   (post : Int32 → Prop) : Nat → Int32 → Int32 → Prop
  | 0, _, _ => False
  | n23 + 1, x4, x5 => (if r3 < x5 then post x4 else (if (x5 &&& (r3 ^^^ (-1))) = 0 then wp_J6_bitCount_0f7a4 x5 (fun (r16 : Int32) => (if r16 = r2 then wp_X1_touchesOf x5 Ra (fun (r26 : Int32) => (if p1 < r26 then (if (0 : Int32) = 0 then gq_nm (x5 + 1) (fun v29 : Int32 => wl_X4_findMove_23 p1 p2 Bi Bf Ra Wd r2 r3 post n23 x4 v29) else (if x4 = (-1) then gq_nm (x5 + 1) (fun v31 : Int32 => wl_X4_findMove_23 p1 p2 Bi Bf Ra Wd r2 r3 post n23 x5 v31) else wp_X4_isBetterMove x5 x4 Bi Bf Wd (fun (r32 : Int32) => (if r32 = 0 then gq_nm (x5 + 1) (fun v34 : Int32 => wl_X4_findMove_23 p1 p2 Bi Bf Ra Wd r2 r3 post n23 x4 v34) else gq_nm (x5 + 1) (fun v35 : Int32 => wl_X4_findMove_23 p1 p2 Bi Bf Ra Wd r2 r3 post n23 x5 v35))))) else wp_X3_countTouchedBy x5 Bi Bf (fun (r36 : Int32) => (if r36 < p2 then (if (0 : Int32) = 0 then gq_nm (x5 + 1) (fun v39 : Int32 => wl_X4_findMove_23 p1 p2 Bi Bf Ra Wd r2 r3 post n23 x4 v39) else (if x4 = (-1) then gq_nm (x5 + 1) (fun v41 : Int32 => wl_X4_findMove_23 p1 p2 Bi Bf Ra Wd r2 r3 post n23 x5 v41) else wp_X4_isBetterMove x5 x4 Bi Bf Wd (fun (r42 : Int32) => (if r42 = 0 then gq_nm (x5 + 1) (fun v44 : Int32 => wl_X4_findMove_23 p1 p2 Bi Bf Ra Wd r2 r3 post n23 x4 v44) else gq_nm (x5 + 1) (fun v45 : Int32 => wl_X4_findMove_23 p1 p2 Bi Bf Ra Wd r2 r3 post n23 x5 v45))))) else (if (1 : Int32) = 0 then gq_nm (x5 + 1) (fun v47 : Int32 => wl_X4_findMove_23 p1 p2 Bi Bf Ra Wd r2 r3 post n23 x4 v47) else (if x4 = (-1) then gq_nm (x5 + 1) (fun v49 : Int32 => wl_X4_findMove_23 p1 p2 Bi Bf Ra Wd r2 r3 post n23 x5 v49) else wp_X4_isBetterMove x5 x4 Bi Bf Wd (fun (r50 : Int32) => (if r50 = 0 then gq_nm (x5 + 1) (fun v52 : Int32 => wl_X4_findMove_23 p1 p2 Bi Bf Ra Wd r2 r3 post n23 x4 v52) else gq_nm (x5 + 1) (fun v53 : Int32 => wl_X4_findMove_23 p1 p2 Bi Bf Ra Wd r2 r3 post n23 x5 v53))))))))) else (if (0 : Int32) = 0 then gq_nm (x5 + 1) (fun v19 : Int32 => wl_X4_findMove_23 p1 p2 Bi Bf Ra Wd r2 r3 post n23 x4 v19) else (if x4 = (-1) then gq_nm (x5 + 1) (fun v21 : Int32 => wl_X4_findMove_23 p1 p2 Bi Bf Ra Wd r2 r3 post n23 x5 v21) else wp_X4_isBetterMove x5 x4 Bi Bf Wd (fun (r22 : Int32) => (if r22 = 0 then gq_nm (x5 + 1) (fun v24 : Int32 => wl_X4_findMove_23 p1 p2 Bi Bf Ra Wd r2 r3 post n23 x4 v24) else gq_nm (x5 + 1) (fun v25 : Int32 => wl_X4_findMove_23 p1 p2 Bi Bf Ra Wd r2 r3 post n23 x5 v25))))))) else (if (0 : Int32) = 0 then gq_nm (x5 + 1) (fun v9 : Int32 => wl_X4_findMove_23 p1 p2 Bi Bf Ra Wd r2 r3 post n23 x4 v9) else (if x4 = (-1) then gq_nm (x5 + 1) (fun v11 : Int32 => wl_X4_findMove_23 p1 p2 Bi Bf Ra Wd r2 r3 post n23 x5 v11) else wp_X4_isBetterMove x5 x4 Bi Bf Wd (fun (r12 : Int32) => (if r12 = 0 then gq_nm (x5 + 1) (fun v14 : Int32 => wl_X4_findMove_23 p1 p2 Bi Bf Ra Wd r2 r3 post n23 x4 v14) else gq_nm (x5 + 1) (fun v15 : Int32 => wl_X4_findMove_23 p1 p2 Bi Bf Ra Wd r2 r3 post n23 x5 v15)))))))

def wp_X4_findMove (p1 : Int32) (p2 : Int32) (Ps : Int32) (Pg : Int32) (Pj : Int32) (Bi : Nat → Int32) (Bf : Int32) (Ra : Nat → Int32) (Wk : Nat → Int32) (Wd : Int32) (We : Int32) (post : Int32 → Prop) : Prop :=
  wp_X2_decoySet Wd (fun (r1 : Int32) => wp_J6_bitCount_0f7a4 r1 (fun (r2 : Int32) => wp_X4_layableSet Ps Pg Pj Wk We (fun (r3 : Int32) => ∃ k23, wl_X4_findMove_23 p1 p2 Bi Bf Ra Wd r2 r3 post k23 (-1) 0)))

theorem iX4_findMove_X4 : ∀ w ∈ wsX40, w ∈ wsX4_findMove := by decide +kernel
set_option maxHeartbeats 4000000 in
set_option maxRecDepth 100000 in
theorem c_X4_findMove (l : Launch) (D : va_G) (ad : Nat → Nat) (ck : Nat → ClassId) (sz : Nat) (Pd : Nat → Int32) (Pm : Nat → Int32) (Ps : Int32) (Pg : Int32) (Pj : Int32) (Bt : Nat → Int32) (Bi : Nat → Int32) (Bf : Int32) (Br : Int32) (Rt : Nat → Int32) (Rl : Nat → Int32) (Rr : Nat → Int32) (Ra : Nat → Int32) (Wt : Nat → Int32) (Wa : Nat → Int32) (Wk : Nat → Int32) (Wd : Int32) (Wn : Int32) (We : Int32) (Wb : Int32) (Hv : Int32) (p1 : Int32) (p2 : Int32) (post : Int32 → Prop) (hw : wp_X4_findMove p1 p2 Ps Pg Pj Bi Bf Ra Wk Wd We post) : Met l yX4_findMove wsX4_findMove { frames := 3, cells := 0, slots := 0, locals := 62 } (va_Pc [.ref (ad 0), .int p1, .int p2] (gq_pre D (tyH ck) (wdH ad ck Pd Pm Ps Pg Pj Bt Bi Bf Br Rt Rl Rr Ra Wt Wa Wk Wd Wn We Wb Hv) sz)) (va_Qi (fun (r : Int32) (_ : Unit) => post r ) (gq_at D (va_A (wdH ad ck Pd Pm Ps Pg Pj Bt Bi Bf Br Rt Rl Rr Ra Wt Wa Wk Wd Wn We Wb Hv) sz) (fun (_ : Unit) => (wdH ad ck Pd Pm Ps Pg Pj Bt Bi Bf Br Rt Rl Rr Ra Wt Wa Wk Wd Wn We Wb Hv))) (va_A (wdH ad ck Pd Pm Ps Pg Pj Bt Bi Bf Br Rt Rl Rr Ra Wt Wa Wk Wd Wn We Wb Hv) sz)) 0 0 (va_A (wdH ad ck Pd Pm Ps Pg Pj Bt Bi Bf Br Rt Rl Rr Ra Wt Wa Wk Wd Wn We Wb Hv) sz) := by
  refine gq_meti (cc := cX4_findMove) (maxL := 8) (lv := [(0, .ref (ad 0)), (1, .int p1), (2, .int p2)]) (by decide) rfl (Nat.le_of_ble_eq_true rfl) rfl ?_
  intro p e s m below meth c A Q ls H locs hx hb hml hown hts hnw hA hK hP hD hS hl hz
  refine lv_aload_n hx hb dX4_findMove_0 rfl (lv_at hl 0 rfl) ?_
  refine va_get (D := D) (ci := 4) (v := .ref (ad 12)) (C := RX4) (T := TX4) (N := 5) hx hb hts iX4_findMove_X4 hown hK hP 0 rfl rfl 3 (by decide) (hts (.fieldLink RX4 33 "DecoyHouse" "watch" "LDecoyHouse$Watch;") (by decide +kernel)) (fun _ h9 => h9) rfl dX4_findMove_1 ?_
  refine gq_calli (wsN := fun _ => (wdH ad ck Pd Pm Ps Pg Pj Bt Bi Bf Br Rt Rl Rr Ra Wt Wa Wk Wd Wn We Wb Hv)) (va_runV (As := []) (rest := []) ⟨hx, hb, hml, hown, hts⟩ (c_X2_decoySet l D ad ck H.size Wt Wa Wk Wd Wn We Wb  _ hw) (cwV 0 hts gX4_findMove_X2_decoySet rfl rfl rfl (by decide +kernel) ⟨Nat.le_of_ble_eq_true rfl, Nat.le_of_ble_eq_true rfl⟩) (gq_preV hK [8, 9, 10] rfl hP hD [12, 13, 14, 15] rfl rfl hnw 2 0 rfl rfl) rfl rfl hl.1 rfl (lv_room (Nat.le_of_ble_eq_true rfl)) dX4_findMove_4 ⟨Nat.zero_le _, Nat.zero_le _⟩) hP hD hS hA [12, 13, 14, 15] [0, 1, 2, 3, 4, 5, 6, 7, 8, 9, 10, 11] rfl rfl rfl (by decide) [0, 1, 2, 3, 4, 5, 6, 7, 8, 9, 10, 11, 12, 13, 14, 15] rfl (fun _ => rfl) (fun r1 _ H locs hw hP hD hS => ?_)
  refine gq_calli (wsN := fun _ => (wdH ad ck Pd Pm Ps Pg Pj Bt Bi Bf Br Rt Rl Rr Ra Wt Wa Wk Wd Wn We Wb Hv)) (va_runS (As := [.int r1]) (rest := []) ⟨hx, hb, hml, hown, hts⟩ (c_J6_bitCount_0f7a4 l D H.size r1 _ hw) (va_cwS 1 hts gX4_findMove_J6_bitCount_0f7a4 rfl rfl rfl (by decide +kernel) ⟨Nat.le_of_ble_eq_true rfl, Nat.le_of_ble_eq_true rfl⟩) (gq_preS hK [] rfl hP hD [] rfl rfl hnw) rfl rfl hl.1 rfl (lv_room (Nat.le_of_ble_eq_true rfl)) dX4_findMove_7 ⟨Nat.zero_le _, Nat.zero_le _⟩) hP hD hS hA [] [0, 1, 2, 3, 4, 5, 6, 7, 8, 9, 10, 11, 12, 13, 14, 15] rfl rfl rfl (by decide) [0, 1, 2, 3, 4, 5, 6, 7, 8, 9, 10, 11, 12, 13, 14, 15] rfl (fun _ => rfl) (fun r2 _ H locs hw hP hD hS => ?_)
  refine lv_istore_n (lv' := [(3, .int r2), (0, .ref (ad 0)), (1, .int p1), (2, .int p2)]) hx hb dX4_findMove_10 rfl hl (by decide) rfl (fun ls hl => ?_)
  refine lv_aload_n hx hb dX4_findMove_11 rfl (lv_at hl 1 rfl) ?_
  refine gq_calli (wsN := fun _ => (wdH ad ck Pd Pm Ps Pg Pj Bt Bi Bf Br Rt Rl Rr Ra Wt Wa Wk Wd Wn We Wb Hv)) (va_runV (As := []) (rest := []) ⟨hx, hb, hml, hown, hts⟩ (c_X4_layableSet l D ad ck H.size Pd Pm Ps Pg Pj Bt Bi Bf Br Rt Rl Rr Ra Wt Wa Wk Wd Wn We Wb Hv  _ hw) (cwV 0 hts gX4_findMove_X4_layableSet rfl rfl rfl (by decide +kernel) ⟨Nat.le_of_ble_eq_true rfl, Nat.le_of_ble_eq_true rfl⟩) (gq_preV hK [0, 1, 2, 3, 4, 5, 6, 7, 8, 9, 10] rfl hP hD [0, 1, 2, 3, 4, 5, 6, 7, 8, 9, 10, 11, 12, 13, 14, 15] rfl rfl hnw 4 0 rfl rfl) rfl rfl hl.1 rfl (lv_room (Nat.le_of_ble_eq_true rfl)) dX4_findMove_12 ⟨Nat.zero_le _, Nat.zero_le _⟩) hP hD hS hA [0, 1, 2, 3, 4, 5, 6, 7, 8, 9, 10, 11, 12, 13, 14, 15] [] rfl rfl rfl (by decide) [0, 1, 2, 3, 4, 5, 6, 7, 8, 9, 10, 11, 12, 13, 14, 15] rfl (fun _ => rfl) (fun r3 _ H locs hw hP hD hS => ?_)
  refine lv_istore (lv' := [(4, .int r3), (3, .int r2), (0, .ref (ad 0)), (1, .int p1), (2, .int p2)]) hx hb dX4_findMove_15 hl (by decide) rfl (fun ls hl => ?_)
  refine lv_iconst (v := (-1)) hx hb dX4_findMove_17 (by decide) ?_
  refine lv_istore (lv' := [(5, .int (-1)), (4, .int r3), (3, .int r2), (0, .ref (ad 0)), (1, .int p1), (2, .int p2)]) hx hb dX4_findMove_18 hl (by decide) rfl (fun ls hl => ?_)
  refine lv_iconst (v := 0) hx hb dX4_findMove_20 (by decide) ?_
  refine lv_istore (lv' := [(6, .int 0), (5, .int (-1)), (4, .int r3), (3, .int r2), (0, .ref (ad 0)), (1, .int p1), (2, .int p2)]) hx hb dX4_findMove_21 hl (by decide) rfl (fun ls hl => ?_)
  have hL23 : ∀ (n : Nat) (x4 : Int32) (x5 : Int32) (H : Heap) (locs : List Loc), wl_X4_findMove_23 p1 p2 Bi Bf Ra Wd r2 r3 post n x4 x5 → va_P D vwCl (wdH ad ck Pd Pm Ps Pg Pj Bt Bi Bf Br Rt Rl Rr Ra Wt Wa Wk Wd Wn We Wb Hv) H → va_D A (wdH ad ck Pd Pm Ps Pg Pj Bt Bi Bf Br Rt Rl Rr Ra Wt Wa Wk Wd Wn We Wb Hv) → va_S A s.heap H locs → ∀ ls : Array Slot, lv_has ls 8 [(0, .ref (ad 0)), (1, .int p1), (2, .int p2), (3, .int r2), (4, .int r3), (5, .int x4), (6, .int x5)] → W p l e { frames := 3, cells := 0, slots := 0, locals := 62 } s m ([.ref (ad 0), .int p1, .int p2] : List Value).toArray below meth c H locs 0 0 Q (F0 m 23 ls []) := by
    intro n
    induction n with
    | zero =>
      intro x4 x5 H locs hw
      exact hw.elim
    | succ n ih =>
      intro x4 x5 H locs hw hP hD hS ls hl
      refine lv_iload hx hb dX4_findMove_23 (lv_at hl 6 rfl) ?_
      refine lv_iload hx hb dX4_findMove_25 (lv_at hl 4 rfl) ?_
      refine lv_icmp_gt (tgt := 114) hx hb dX4_findMove_27 (by decide) (fun c6 => ?_) (fun c6 => ?_)
      · have hw := gq_t c6 hw
        refine lv_iload hx hb dX4_findMove_114 (lv_at hl 5 rfl) ?_
        exact hz x4 () _ _ _ _ dX4_findMove_116 hw hP hD hS
      · have hw := gq_f c6 hw
        refine lv_iload hx hb dX4_findMove_30 (lv_at hl 6 rfl) ?_
        refine lv_iload hx hb dX4_findMove_32 (lv_at hl 4 rfl) ?_
        refine lv_iconst (v := (-1)) hx hb dX4_findMove_34 (by decide) ?_
        refine lv_ixor hx hb dX4_findMove_35 ?_
        refine lv_iand hx hb dX4_findMove_36 ?_
        refine lv_if_ne (tgt := 79) hx hb dX4_findMove_37 (by decide) (fun c7 => ?_) (fun c7 => ?_)
        · have hw := gq_f c7 hw
          refine lv_iconst (v := 0) hx hb dX4_findMove_79 (by decide) ?_
          refine lv_istore (lv' := [(7, .int 0), (0, .ref (ad 0)), (1, .int p1), (2, .int p2), (3, .int r2), (4, .int r3), (5, .int x4), (6, .int x5)]) hx hb dX4_findMove_80 hl (by decide) rfl (fun ls hl => ?_)
          refine lv_iload hx hb dX4_findMove_82 (lv_at hl 0 rfl) ?_
          refine lv_if_eq (tgt := 108) hx hb dX4_findMove_84 (by decide) (fun c8 => ?_) (fun c8 => ?_)
          · have hw := gq_t c8 hw
            obtain ⟨v9, ev9⟩ : ∃ y : Int32, y = x5 + 1 := ⟨_, rfl⟩
            have hw := gq_at1 hw ev9
            refine lv_iinc (v := v9) (lv' := [(6, .int v9), (7, .int 0), (0, .ref (ad 0)), (1, .int p1), (2, .int p2), (3, .int r2), (4, .int r3), (5, .int x4)]) hx hb dX4_findMove_108 hl (k := 7) rfl (by rw [ev9]; rfl) (by decide) rfl (fun ls hl => ?_)
            refine lv_goto (tgt := 23) hx hb dX4_findMove_111 (by decide) ?_
            exact ih x4 v9 _ _ hw hP hD hS ls (lv_sub hl [2, 3, 4, 5, 6, 7, 0] rfl)
          · have hw := gq_f c8 hw
            refine lv_iload hx hb dX4_findMove_87 (lv_at hl 6 rfl) ?_
            refine lv_iconst (v := (-1)) hx hb dX4_findMove_89 (by decide) ?_
            refine lv_icmp_eq (tgt := 104) hx hb dX4_findMove_90 (by decide) (fun c10 => ?_) (fun c10 => ?_)
            · have hw := gq_t c10 hw
              refine lv_iload hx hb dX4_findMove_104 (lv_at hl 7 rfl) ?_
              refine lv_istore (lv' := [(5, .int x5), (7, .int 0), (0, .ref (ad 0)), (1, .int p1), (2, .int p2), (3, .int r2), (4, .int r3), (6, .int x5)]) hx hb dX4_findMove_106 hl (by decide) rfl (fun ls hl => ?_)
              obtain ⟨v11, ev11⟩ : ∃ y : Int32, y = x5 + 1 := ⟨_, rfl⟩
              have hw := gq_at1 hw ev11
              refine lv_iinc (v := v11) (lv' := [(6, .int v11), (5, .int x5), (7, .int 0), (0, .ref (ad 0)), (1, .int p1), (2, .int p2), (3, .int r2), (4, .int r3)]) hx hb dX4_findMove_108 hl (k := 7) rfl (by rw [ev11]; rfl) (by decide) rfl (fun ls hl => ?_)
              refine lv_goto (tgt := 23) hx hb dX4_findMove_111 (by decide) ?_
              exact ih x5 v11 _ _ hw hP hD hS ls (lv_sub hl [3, 4, 5, 6, 7, 1, 0] rfl)
            · have hw := gq_f c10 hw
              refine lv_aload_n hx hb dX4_findMove_93 rfl (lv_at hl 1 rfl) ?_
              refine lv_iload hx hb dX4_findMove_94 (lv_at hl 7 rfl) ?_
              refine lv_iload hx hb dX4_findMove_96 (lv_at hl 6 rfl) ?_
              refine gq_calli (wsN := fun _ => (wdH ad ck Pd Pm Ps Pg Pj Bt Bi Bf Br Rt Rl Rr Ra Wt Wa Wk Wd Wn We Wb Hv)) (va_runV (As := [.int x5, .int x4]) (rest := []) ⟨hx, hb, hml, hown, hts⟩ (c_X4_isBetterMove l D ad ck H.size Pd Pm Ps Pg Pj Bt Bi Bf Br Rt Rl Rr Ra Wt Wa Wk Wd Wn We Wb Hv x5 x4 _ hw) (cwV 2 hts gX4_findMove_X4_isBetterMove rfl rfl rfl (by decide +kernel) ⟨Nat.le_of_ble_eq_true rfl, Nat.le_of_ble_eq_true rfl⟩) (gq_preV hK [0, 1, 2, 3, 4, 5, 6, 7, 8, 9, 10] rfl hP hD [0, 1, 2, 3, 4, 5, 6, 7, 8, 9, 10, 11, 12, 13, 14, 15] rfl rfl hnw 4 0 rfl rfl) rfl rfl hl.1 rfl (lv_room (Nat.le_of_ble_eq_true rfl)) dX4_findMove_98 ⟨Nat.zero_le _, Nat.zero_le _⟩) hP hD hS hA [0, 1, 2, 3, 4, 5, 6, 7, 8, 9, 10, 11, 12, 13, 14, 15] [] rfl rfl rfl (by decide) [0, 1, 2, 3, 4, 5, 6, 7, 8, 9, 10, 11, 12, 13, 14, 15] rfl (fun _ => rfl) (fun r12 _ H locs hw hP hD hS => ?_)
              refine lv_if_eq (tgt := 108) hx hb dX4_findMove_101 (by decide) (fun c13 => ?_) (fun c13 => ?_)
              · have hw := gq_t c13 hw
                obtain ⟨v14, ev14⟩ : ∃ y : Int32, y = x5 + 1 := ⟨_, rfl⟩
                have hw := gq_at1 hw ev14
                refine lv_iinc (v := v14) (lv' := [(6, .int v14), (7, .int 0), (0, .ref (ad 0)), (1, .int p1), (2, .int p2), (3, .int r2), (4, .int r3), (5, .int x4)]) hx hb dX4_findMove_108 hl (k := 7) rfl (by rw [ev14]; rfl) (by decide) rfl (fun ls hl => ?_)
                refine lv_goto (tgt := 23) hx hb dX4_findMove_111 (by decide) ?_
                exact ih x4 v14 _ _ hw hP hD hS ls (lv_sub hl [2, 3, 4, 5, 6, 7, 0] rfl)
              · have hw := gq_f c13 hw
                refine lv_iload hx hb dX4_findMove_104 (lv_at hl 7 rfl) ?_
                refine lv_istore (lv' := [(5, .int x5), (7, .int 0), (0, .ref (ad 0)), (1, .int p1), (2, .int p2), (3, .int r2), (4, .int r3), (6, .int x5)]) hx hb dX4_findMove_106 hl (by decide) rfl (fun ls hl => ?_)
                obtain ⟨v15, ev15⟩ : ∃ y : Int32, y = x5 + 1 := ⟨_, rfl⟩
                have hw := gq_at1 hw ev15
                refine lv_iinc (v := v15) (lv' := [(6, .int v15), (5, .int x5), (7, .int 0), (0, .ref (ad 0)), (1, .int p1), (2, .int p2), (3, .int r2), (4, .int r3)]) hx hb dX4_findMove_108 hl (k := 7) rfl (by rw [ev15]; rfl) (by decide) rfl (fun ls hl => ?_)
                refine lv_goto (tgt := 23) hx hb dX4_findMove_111 (by decide) ?_
                exact ih x5 v15 _ _ hw hP hD hS ls (lv_sub hl [3, 4, 5, 6, 7, 1, 0] rfl)
        · have hw := gq_t c7 hw
          refine lv_iload hx hb dX4_findMove_40 (lv_at hl 6 rfl) ?_
          refine gq_calli (wsN := fun _ => (wdH ad ck Pd Pm Ps Pg Pj Bt Bi Bf Br Rt Rl Rr Ra Wt Wa Wk Wd Wn We Wb Hv)) (va_runS (As := [.int x5]) (rest := []) ⟨hx, hb, hml, hown, hts⟩ (c_J6_bitCount_0f7a4 l D H.size x5 _ hw) (va_cwS 1 hts gX4_findMove_J6_bitCount_0f7a4 rfl rfl rfl (by decide +kernel) ⟨Nat.le_of_ble_eq_true rfl, Nat.le_of_ble_eq_true rfl⟩) (gq_preS hK [] rfl hP hD [] rfl rfl hnw) rfl rfl hl.1 rfl (lv_room (Nat.le_of_ble_eq_true rfl)) dX4_findMove_42 ⟨Nat.zero_le _, Nat.zero_le _⟩) hP hD hS hA [] [0, 1, 2, 3, 4, 5, 6, 7, 8, 9, 10, 11, 12, 13, 14, 15] rfl rfl rfl (by decide) [0, 1, 2, 3, 4, 5, 6, 7, 8, 9, 10, 11, 12, 13, 14, 15] rfl (fun _ => rfl) (fun r16 _ H locs hw hP hD hS => ?_)
          refine lv_iload_n hx hb dX4_findMove_45 rfl (lv_at hl 3 rfl) ?_
          refine lv_icmp_ne (tgt := 79) hx hb dX4_findMove_46 (by decide) (fun c17 => ?_) (fun c17 => ?_)
          · have hw := gq_f c17 hw
            refine lv_iconst (v := 0) hx hb dX4_findMove_79 (by decide) ?_
            refine lv_istore (lv' := [(7, .int 0), (0, .ref (ad 0)), (1, .int p1), (2, .int p2), (3, .int r2), (4, .int r3), (5, .int x4), (6, .int x5)]) hx hb dX4_findMove_80 hl (by decide) rfl (fun ls hl => ?_)
            refine lv_iload hx hb dX4_findMove_82 (lv_at hl 0 rfl) ?_
            refine lv_if_eq (tgt := 108) hx hb dX4_findMove_84 (by decide) (fun c18 => ?_) (fun c18 => ?_)
            · have hw := gq_t c18 hw
              obtain ⟨v19, ev19⟩ : ∃ y : Int32, y = x5 + 1 := ⟨_, rfl⟩
              have hw := gq_at1 hw ev19
              refine lv_iinc (v := v19) (lv' := [(6, .int v19), (7, .int 0), (0, .ref (ad 0)), (1, .int p1), (2, .int p2), (3, .int r2), (4, .int r3), (5, .int x4)]) hx hb dX4_findMove_108 hl (k := 7) rfl (by rw [ev19]; rfl) (by decide) rfl (fun ls hl => ?_)
              refine lv_goto (tgt := 23) hx hb dX4_findMove_111 (by decide) ?_
              exact ih x4 v19 _ _ hw hP hD hS ls (lv_sub hl [2, 3, 4, 5, 6, 7, 0] rfl)
            · have hw := gq_f c18 hw
              refine lv_iload hx hb dX4_findMove_87 (lv_at hl 6 rfl) ?_
              refine lv_iconst (v := (-1)) hx hb dX4_findMove_89 (by decide) ?_
              refine lv_icmp_eq (tgt := 104) hx hb dX4_findMove_90 (by decide) (fun c20 => ?_) (fun c20 => ?_)
              · have hw := gq_t c20 hw
                refine lv_iload hx hb dX4_findMove_104 (lv_at hl 7 rfl) ?_
                refine lv_istore (lv' := [(5, .int x5), (7, .int 0), (0, .ref (ad 0)), (1, .int p1), (2, .int p2), (3, .int r2), (4, .int r3), (6, .int x5)]) hx hb dX4_findMove_106 hl (by decide) rfl (fun ls hl => ?_)
                obtain ⟨v21, ev21⟩ : ∃ y : Int32, y = x5 + 1 := ⟨_, rfl⟩
                have hw := gq_at1 hw ev21
                refine lv_iinc (v := v21) (lv' := [(6, .int v21), (5, .int x5), (7, .int 0), (0, .ref (ad 0)), (1, .int p1), (2, .int p2), (3, .int r2), (4, .int r3)]) hx hb dX4_findMove_108 hl (k := 7) rfl (by rw [ev21]; rfl) (by decide) rfl (fun ls hl => ?_)
                refine lv_goto (tgt := 23) hx hb dX4_findMove_111 (by decide) ?_
                exact ih x5 v21 _ _ hw hP hD hS ls (lv_sub hl [3, 4, 5, 6, 7, 1, 0] rfl)
              · have hw := gq_f c20 hw
                refine lv_aload_n hx hb dX4_findMove_93 rfl (lv_at hl 1 rfl) ?_
                refine lv_iload hx hb dX4_findMove_94 (lv_at hl 7 rfl) ?_
                refine lv_iload hx hb dX4_findMove_96 (lv_at hl 6 rfl) ?_
                refine gq_calli (wsN := fun _ => (wdH ad ck Pd Pm Ps Pg Pj Bt Bi Bf Br Rt Rl Rr Ra Wt Wa Wk Wd Wn We Wb Hv)) (va_runV (As := [.int x5, .int x4]) (rest := []) ⟨hx, hb, hml, hown, hts⟩ (c_X4_isBetterMove l D ad ck H.size Pd Pm Ps Pg Pj Bt Bi Bf Br Rt Rl Rr Ra Wt Wa Wk Wd Wn We Wb Hv x5 x4 _ hw) (cwV 2 hts gX4_findMove_X4_isBetterMove rfl rfl rfl (by decide +kernel) ⟨Nat.le_of_ble_eq_true rfl, Nat.le_of_ble_eq_true rfl⟩) (gq_preV hK [0, 1, 2, 3, 4, 5, 6, 7, 8, 9, 10] rfl hP hD [0, 1, 2, 3, 4, 5, 6, 7, 8, 9, 10, 11, 12, 13, 14, 15] rfl rfl hnw 4 0 rfl rfl) rfl rfl hl.1 rfl (lv_room (Nat.le_of_ble_eq_true rfl)) dX4_findMove_98 ⟨Nat.zero_le _, Nat.zero_le _⟩) hP hD hS hA [0, 1, 2, 3, 4, 5, 6, 7, 8, 9, 10, 11, 12, 13, 14, 15] [] rfl rfl rfl (by decide) [0, 1, 2, 3, 4, 5, 6, 7, 8, 9, 10, 11, 12, 13, 14, 15] rfl (fun _ => rfl) (fun r22 _ H locs hw hP hD hS => ?_)
                refine lv_if_eq (tgt := 108) hx hb dX4_findMove_101 (by decide) (fun c23 => ?_) (fun c23 => ?_)
                · have hw := gq_t c23 hw
                  obtain ⟨v24, ev24⟩ : ∃ y : Int32, y = x5 + 1 := ⟨_, rfl⟩
                  have hw := gq_at1 hw ev24
                  refine lv_iinc (v := v24) (lv' := [(6, .int v24), (7, .int 0), (0, .ref (ad 0)), (1, .int p1), (2, .int p2), (3, .int r2), (4, .int r3), (5, .int x4)]) hx hb dX4_findMove_108 hl (k := 7) rfl (by rw [ev24]; rfl) (by decide) rfl (fun ls hl => ?_)
                  refine lv_goto (tgt := 23) hx hb dX4_findMove_111 (by decide) ?_
                  exact ih x4 v24 _ _ hw hP hD hS ls (lv_sub hl [2, 3, 4, 5, 6, 7, 0] rfl)
                · have hw := gq_f c23 hw
                  refine lv_iload hx hb dX4_findMove_104 (lv_at hl 7 rfl) ?_
                  refine lv_istore (lv' := [(5, .int x5), (7, .int 0), (0, .ref (ad 0)), (1, .int p1), (2, .int p2), (3, .int r2), (4, .int r3), (6, .int x5)]) hx hb dX4_findMove_106 hl (by decide) rfl (fun ls hl => ?_)
                  obtain ⟨v25, ev25⟩ : ∃ y : Int32, y = x5 + 1 := ⟨_, rfl⟩
                  have hw := gq_at1 hw ev25
                  refine lv_iinc (v := v25) (lv' := [(6, .int v25), (5, .int x5), (7, .int 0), (0, .ref (ad 0)), (1, .int p1), (2, .int p2), (3, .int r2), (4, .int r3)]) hx hb dX4_findMove_108 hl (k := 7) rfl (by rw [ev25]; rfl) (by decide) rfl (fun ls hl => ?_)
                  refine lv_goto (tgt := 23) hx hb dX4_findMove_111 (by decide) ?_
                  exact ih x5 v25 _ _ hw hP hD hS ls (lv_sub hl [3, 4, 5, 6, 7, 1, 0] rfl)
          · have hw := gq_t c17 hw
            refine lv_aload_n hx hb dX4_findMove_49 rfl (lv_at hl 0 rfl) ?_
            refine va_get (D := D) (ci := 4) (v := .ref (ad 7)) (C := RX4) (T := TX4) (N := 5) hx hb hts iX4_findMove_X4 hown hK hP 0 rfl rfl 2 (by decide) (hts (.fieldLink RX4 26 "DecoyHouse" "rounds" "LDecoyHouse$Rounds;") (by decide +kernel)) (fun _ h9 => h9) rfl dX4_findMove_50 ?_
            refine lv_iload hx hb dX4_findMove_53 (lv_at hl 6 rfl) ?_
            refine gq_calli (wsN := fun _ => (wdH ad ck Pd Pm Ps Pg Pj Bt Bi Bf Br Rt Rl Rr Ra Wt Wa Wk Wd Wn We Wb Hv)) (va_runV (As := [.int x5]) (rest := []) ⟨hx, hb, hml, hown, hts⟩ (c_X1_touchesOf l D ad ck H.size Rt Rl Rr Ra x5 _ hw) (cwV 1 hts gX4_findMove_X1_touchesOf rfl rfl rfl (by decide +kernel) ⟨Nat.le_of_ble_eq_true rfl, Nat.le_of_ble_eq_true rfl⟩) (gq_preV hK [4, 5, 6, 7] rfl hP hD [7, 8, 9, 10, 11] rfl rfl hnw 1 0 rfl rfl) rfl rfl hl.1 rfl (lv_room (Nat.le_of_ble_eq_true rfl)) dX4_findMove_55 ⟨Nat.zero_le _, Nat.zero_le _⟩) hP hD hS hA [7, 8, 9, 10, 11] [0, 1, 2, 3, 4, 5, 6, 12, 13, 14, 15] rfl rfl rfl (by decide) [0, 1, 2, 3, 4, 5, 6, 11, 12, 13, 14, 15, 7, 8, 9, 10] rfl (fun _ => rfl) (fun r26 _ H locs hw hP hD hS => ?_)
            refine lv_iload_n hx hb dX4_findMove_58 rfl (lv_at hl 1 rfl) ?_
            refine lv_icmp_gt (tgt := 79) hx hb dX4_findMove_59 (by decide) (fun c27 => ?_) (fun c27 => ?_)
            · have hw := gq_t c27 hw
              refine lv_iconst (v := 0) hx hb dX4_findMove_79 (by decide) ?_
              refine lv_istore (lv' := [(7, .int 0), (0, .ref (ad 0)), (1, .int p1), (2, .int p2), (3, .int r2), (4, .int r3), (5, .int x4), (6, .int x5)]) hx hb dX4_findMove_80 hl (by decide) rfl (fun ls hl => ?_)
              refine lv_iload hx hb dX4_findMove_82 (lv_at hl 0 rfl) ?_
              refine lv_if_eq (tgt := 108) hx hb dX4_findMove_84 (by decide) (fun c28 => ?_) (fun c28 => ?_)
              · have hw := gq_t c28 hw
                obtain ⟨v29, ev29⟩ : ∃ y : Int32, y = x5 + 1 := ⟨_, rfl⟩
                have hw := gq_at1 hw ev29
                refine lv_iinc (v := v29) (lv' := [(6, .int v29), (7, .int 0), (0, .ref (ad 0)), (1, .int p1), (2, .int p2), (3, .int r2), (4, .int r3), (5, .int x4)]) hx hb dX4_findMove_108 hl (k := 7) rfl (by rw [ev29]; rfl) (by decide) rfl (fun ls hl => ?_)
                refine lv_goto (tgt := 23) hx hb dX4_findMove_111 (by decide) ?_
                exact ih x4 v29 _ _ hw hP hD hS ls (lv_sub hl [2, 3, 4, 5, 6, 7, 0] rfl)
              · have hw := gq_f c28 hw
                refine lv_iload hx hb dX4_findMove_87 (lv_at hl 6 rfl) ?_
                refine lv_iconst (v := (-1)) hx hb dX4_findMove_89 (by decide) ?_
                refine lv_icmp_eq (tgt := 104) hx hb dX4_findMove_90 (by decide) (fun c30 => ?_) (fun c30 => ?_)
                · have hw := gq_t c30 hw
                  refine lv_iload hx hb dX4_findMove_104 (lv_at hl 7 rfl) ?_
                  refine lv_istore (lv' := [(5, .int x5), (7, .int 0), (0, .ref (ad 0)), (1, .int p1), (2, .int p2), (3, .int r2), (4, .int r3), (6, .int x5)]) hx hb dX4_findMove_106 hl (by decide) rfl (fun ls hl => ?_)
                  obtain ⟨v31, ev31⟩ : ∃ y : Int32, y = x5 + 1 := ⟨_, rfl⟩
                  have hw := gq_at1 hw ev31
                  refine lv_iinc (v := v31) (lv' := [(6, .int v31), (5, .int x5), (7, .int 0), (0, .ref (ad 0)), (1, .int p1), (2, .int p2), (3, .int r2), (4, .int r3)]) hx hb dX4_findMove_108 hl (k := 7) rfl (by rw [ev31]; rfl) (by decide) rfl (fun ls hl => ?_)
                  refine lv_goto (tgt := 23) hx hb dX4_findMove_111 (by decide) ?_
                  exact ih x5 v31 _ _ hw hP hD hS ls (lv_sub hl [3, 4, 5, 6, 7, 1, 0] rfl)
                · have hw := gq_f c30 hw
                  refine lv_aload_n hx hb dX4_findMove_93 rfl (lv_at hl 1 rfl) ?_
                  refine lv_iload hx hb dX4_findMove_94 (lv_at hl 7 rfl) ?_
                  refine lv_iload hx hb dX4_findMove_96 (lv_at hl 6 rfl) ?_
                  refine gq_calli (wsN := fun _ => (wdH ad ck Pd Pm Ps Pg Pj Bt Bi Bf Br Rt Rl Rr Ra Wt Wa Wk Wd Wn We Wb Hv)) (va_runV (As := [.int x5, .int x4]) (rest := []) ⟨hx, hb, hml, hown, hts⟩ (c_X4_isBetterMove l D ad ck H.size Pd Pm Ps Pg Pj Bt Bi Bf Br Rt Rl Rr Ra Wt Wa Wk Wd Wn We Wb Hv x5 x4 _ hw) (cwV 2 hts gX4_findMove_X4_isBetterMove rfl rfl rfl (by decide +kernel) ⟨Nat.le_of_ble_eq_true rfl, Nat.le_of_ble_eq_true rfl⟩) (gq_preV hK [0, 1, 2, 3, 4, 5, 6, 7, 8, 9, 10] rfl hP hD [0, 1, 2, 3, 4, 5, 6, 7, 8, 9, 10, 11, 12, 13, 14, 15] rfl rfl hnw 4 0 rfl rfl) rfl rfl hl.1 rfl (lv_room (Nat.le_of_ble_eq_true rfl)) dX4_findMove_98 ⟨Nat.zero_le _, Nat.zero_le _⟩) hP hD hS hA [0, 1, 2, 3, 4, 5, 6, 7, 8, 9, 10, 11, 12, 13, 14, 15] [] rfl rfl rfl (by decide) [0, 1, 2, 3, 4, 5, 6, 7, 8, 9, 10, 11, 12, 13, 14, 15] rfl (fun _ => rfl) (fun r32 _ H locs hw hP hD hS => ?_)
                  refine lv_if_eq (tgt := 108) hx hb dX4_findMove_101 (by decide) (fun c33 => ?_) (fun c33 => ?_)
                  · have hw := gq_t c33 hw
                    obtain ⟨v34, ev34⟩ : ∃ y : Int32, y = x5 + 1 := ⟨_, rfl⟩
                    have hw := gq_at1 hw ev34
                    refine lv_iinc (v := v34) (lv' := [(6, .int v34), (7, .int 0), (0, .ref (ad 0)), (1, .int p1), (2, .int p2), (3, .int r2), (4, .int r3), (5, .int x4)]) hx hb dX4_findMove_108 hl (k := 7) rfl (by rw [ev34]; rfl) (by decide) rfl (fun ls hl => ?_)
                    refine lv_goto (tgt := 23) hx hb dX4_findMove_111 (by decide) ?_
                    exact ih x4 v34 _ _ hw hP hD hS ls (lv_sub hl [2, 3, 4, 5, 6, 7, 0] rfl)
                  · have hw := gq_f c33 hw
                    refine lv_iload hx hb dX4_findMove_104 (lv_at hl 7 rfl) ?_
                    refine lv_istore (lv' := [(5, .int x5), (7, .int 0), (0, .ref (ad 0)), (1, .int p1), (2, .int p2), (3, .int r2), (4, .int r3), (6, .int x5)]) hx hb dX4_findMove_106 hl (by decide) rfl (fun ls hl => ?_)
                    obtain ⟨v35, ev35⟩ : ∃ y : Int32, y = x5 + 1 := ⟨_, rfl⟩
                    have hw := gq_at1 hw ev35
                    refine lv_iinc (v := v35) (lv' := [(6, .int v35), (5, .int x5), (7, .int 0), (0, .ref (ad 0)), (1, .int p1), (2, .int p2), (3, .int r2), (4, .int r3)]) hx hb dX4_findMove_108 hl (k := 7) rfl (by rw [ev35]; rfl) (by decide) rfl (fun ls hl => ?_)
                    refine lv_goto (tgt := 23) hx hb dX4_findMove_111 (by decide) ?_
                    exact ih x5 v35 _ _ hw hP hD hS ls (lv_sub hl [3, 4, 5, 6, 7, 1, 0] rfl)
            · have hw := gq_f c27 hw
              refine lv_aload_n hx hb dX4_findMove_62 rfl (lv_at hl 0 rfl) ?_
              refine va_get (D := D) (ci := 4) (v := .ref (ad 4)) (C := RX4) (T := TX4) (N := 5) hx hb hts iX4_findMove_X4 hown hK hP 0 rfl rfl 1 (by decide) (hts (.fieldLink RX4 19 "DecoyHouse" "book" "LDecoyHouse$WayBook;") (by decide +kernel)) (fun _ h9 => h9) rfl dX4_findMove_63 ?_
              refine lv_iload hx hb dX4_findMove_66 (lv_at hl 6 rfl) ?_
              refine gq_calli (wsN := fun _ => (wdH ad ck Pd Pm Ps Pg Pj Bt Bi Bf Br Rt Rl Rr Ra Wt Wa Wk Wd Wn We Wb Hv)) (va_runV (As := [.int x5]) (rest := []) ⟨hx, hb, hml, hown, hts⟩ (c_X3_countTouchedBy l D ad ck H.size Bt Bi Bf Br x5 _ hw) (cwV 1 hts gX4_findMove_X3_countTouchedBy rfl rfl rfl (by decide +kernel) ⟨Nat.le_of_ble_eq_true rfl, Nat.le_of_ble_eq_true rfl⟩) (gq_preV hK [2, 3] rfl hP hD [4, 5, 6] rfl rfl hnw 3 0 rfl rfl) rfl rfl hl.1 rfl (lv_room (Nat.le_of_ble_eq_true rfl)) dX4_findMove_68 ⟨Nat.zero_le _, Nat.zero_le _⟩) hP hD hS hA [4, 5, 6] [0, 1, 2, 3, 7, 8, 9, 10, 11, 12, 13, 14, 15] rfl rfl rfl (by decide) [0, 1, 2, 3, 13, 14, 15, 4, 5, 6, 7, 8, 9, 10, 11, 12] rfl (fun _ => rfl) (fun r36 _ H locs hw hP hD hS => ?_)
              refine lv_iload_n hx hb dX4_findMove_71 rfl (lv_at hl 2 rfl) ?_
              refine lv_icmp_lt (tgt := 79) hx hb dX4_findMove_72 (by decide) (fun c37 => ?_) (fun c37 => ?_)
              · have hw := gq_t c37 hw
                refine lv_iconst (v := 0) hx hb dX4_findMove_79 (by decide) ?_
                refine lv_istore (lv' := [(7, .int 0), (0, .ref (ad 0)), (1, .int p1), (2, .int p2), (3, .int r2), (4, .int r3), (5, .int x4), (6, .int x5)]) hx hb dX4_findMove_80 hl (by decide) rfl (fun ls hl => ?_)
                refine lv_iload hx hb dX4_findMove_82 (lv_at hl 0 rfl) ?_
                refine lv_if_eq (tgt := 108) hx hb dX4_findMove_84 (by decide) (fun c38 => ?_) (fun c38 => ?_)
                · have hw := gq_t c38 hw
                  obtain ⟨v39, ev39⟩ : ∃ y : Int32, y = x5 + 1 := ⟨_, rfl⟩
                  have hw := gq_at1 hw ev39
                  refine lv_iinc (v := v39) (lv' := [(6, .int v39), (7, .int 0), (0, .ref (ad 0)), (1, .int p1), (2, .int p2), (3, .int r2), (4, .int r3), (5, .int x4)]) hx hb dX4_findMove_108 hl (k := 7) rfl (by rw [ev39]; rfl) (by decide) rfl (fun ls hl => ?_)
                  refine lv_goto (tgt := 23) hx hb dX4_findMove_111 (by decide) ?_
                  exact ih x4 v39 _ _ hw hP hD hS ls (lv_sub hl [2, 3, 4, 5, 6, 7, 0] rfl)
                · have hw := gq_f c38 hw
                  refine lv_iload hx hb dX4_findMove_87 (lv_at hl 6 rfl) ?_
                  refine lv_iconst (v := (-1)) hx hb dX4_findMove_89 (by decide) ?_
                  refine lv_icmp_eq (tgt := 104) hx hb dX4_findMove_90 (by decide) (fun c40 => ?_) (fun c40 => ?_)
                  · have hw := gq_t c40 hw
                    refine lv_iload hx hb dX4_findMove_104 (lv_at hl 7 rfl) ?_
                    refine lv_istore (lv' := [(5, .int x5), (7, .int 0), (0, .ref (ad 0)), (1, .int p1), (2, .int p2), (3, .int r2), (4, .int r3), (6, .int x5)]) hx hb dX4_findMove_106 hl (by decide) rfl (fun ls hl => ?_)
                    obtain ⟨v41, ev41⟩ : ∃ y : Int32, y = x5 + 1 := ⟨_, rfl⟩
                    have hw := gq_at1 hw ev41
                    refine lv_iinc (v := v41) (lv' := [(6, .int v41), (5, .int x5), (7, .int 0), (0, .ref (ad 0)), (1, .int p1), (2, .int p2), (3, .int r2), (4, .int r3)]) hx hb dX4_findMove_108 hl (k := 7) rfl (by rw [ev41]; rfl) (by decide) rfl (fun ls hl => ?_)
                    refine lv_goto (tgt := 23) hx hb dX4_findMove_111 (by decide) ?_
                    exact ih x5 v41 _ _ hw hP hD hS ls (lv_sub hl [3, 4, 5, 6, 7, 1, 0] rfl)
                  · have hw := gq_f c40 hw
                    refine lv_aload_n hx hb dX4_findMove_93 rfl (lv_at hl 1 rfl) ?_
                    refine lv_iload hx hb dX4_findMove_94 (lv_at hl 7 rfl) ?_
                    refine lv_iload hx hb dX4_findMove_96 (lv_at hl 6 rfl) ?_
                    refine gq_calli (wsN := fun _ => (wdH ad ck Pd Pm Ps Pg Pj Bt Bi Bf Br Rt Rl Rr Ra Wt Wa Wk Wd Wn We Wb Hv)) (va_runV (As := [.int x5, .int x4]) (rest := []) ⟨hx, hb, hml, hown, hts⟩ (c_X4_isBetterMove l D ad ck H.size Pd Pm Ps Pg Pj Bt Bi Bf Br Rt Rl Rr Ra Wt Wa Wk Wd Wn We Wb Hv x5 x4 _ hw) (cwV 2 hts gX4_findMove_X4_isBetterMove rfl rfl rfl (by decide +kernel) ⟨Nat.le_of_ble_eq_true rfl, Nat.le_of_ble_eq_true rfl⟩) (gq_preV hK [0, 1, 2, 3, 4, 5, 6, 7, 8, 9, 10] rfl hP hD [0, 1, 2, 3, 4, 5, 6, 7, 8, 9, 10, 11, 12, 13, 14, 15] rfl rfl hnw 4 0 rfl rfl) rfl rfl hl.1 rfl (lv_room (Nat.le_of_ble_eq_true rfl)) dX4_findMove_98 ⟨Nat.zero_le _, Nat.zero_le _⟩) hP hD hS hA [0, 1, 2, 3, 4, 5, 6, 7, 8, 9, 10, 11, 12, 13, 14, 15] [] rfl rfl rfl (by decide) [0, 1, 2, 3, 4, 5, 6, 7, 8, 9, 10, 11, 12, 13, 14, 15] rfl (fun _ => rfl) (fun r42 _ H locs hw hP hD hS => ?_)
                    refine lv_if_eq (tgt := 108) hx hb dX4_findMove_101 (by decide) (fun c43 => ?_) (fun c43 => ?_)
                    · have hw := gq_t c43 hw
                      obtain ⟨v44, ev44⟩ : ∃ y : Int32, y = x5 + 1 := ⟨_, rfl⟩
                      have hw := gq_at1 hw ev44
                      refine lv_iinc (v := v44) (lv' := [(6, .int v44), (7, .int 0), (0, .ref (ad 0)), (1, .int p1), (2, .int p2), (3, .int r2), (4, .int r3), (5, .int x4)]) hx hb dX4_findMove_108 hl (k := 7) rfl (by rw [ev44]; rfl) (by decide) rfl (fun ls hl => ?_)
                      refine lv_goto (tgt := 23) hx hb dX4_findMove_111 (by decide) ?_
                      exact ih x4 v44 _ _ hw hP hD hS ls (lv_sub hl [2, 3, 4, 5, 6, 7, 0] rfl)
                    · have hw := gq_f c43 hw
                      refine lv_iload hx hb dX4_findMove_104 (lv_at hl 7 rfl) ?_
                      refine lv_istore (lv' := [(5, .int x5), (7, .int 0), (0, .ref (ad 0)), (1, .int p1), (2, .int p2), (3, .int r2), (4, .int r3), (6, .int x5)]) hx hb dX4_findMove_106 hl (by decide) rfl (fun ls hl => ?_)
                      obtain ⟨v45, ev45⟩ : ∃ y : Int32, y = x5 + 1 := ⟨_, rfl⟩
                      have hw := gq_at1 hw ev45
                      refine lv_iinc (v := v45) (lv' := [(6, .int v45), (5, .int x5), (7, .int 0), (0, .ref (ad 0)), (1, .int p1), (2, .int p2), (3, .int r2), (4, .int r3)]) hx hb dX4_findMove_108 hl (k := 7) rfl (by rw [ev45]; rfl) (by decide) rfl (fun ls hl => ?_)
                      refine lv_goto (tgt := 23) hx hb dX4_findMove_111 (by decide) ?_
                      exact ih x5 v45 _ _ hw hP hD hS ls (lv_sub hl [3, 4, 5, 6, 7, 1, 0] rfl)
              · have hw := gq_f c37 hw
                refine lv_iconst (v := 1) hx hb dX4_findMove_75 (by decide) ?_
                refine lv_goto (tgt := 80) hx hb dX4_findMove_76 (by decide) ?_
                refine lv_istore (lv' := [(7, .int 1), (0, .ref (ad 0)), (1, .int p1), (2, .int p2), (3, .int r2), (4, .int r3), (5, .int x4), (6, .int x5)]) hx hb dX4_findMove_80 hl (by decide) rfl (fun ls hl => ?_)
                refine lv_iload hx hb dX4_findMove_82 (lv_at hl 0 rfl) ?_
                refine lv_if_eq (tgt := 108) hx hb dX4_findMove_84 (by decide) (fun c46 => ?_) (fun c46 => ?_)
                · have hw := gq_t c46 hw
                  obtain ⟨v47, ev47⟩ : ∃ y : Int32, y = x5 + 1 := ⟨_, rfl⟩
                  have hw := gq_at1 hw ev47
                  refine lv_iinc (v := v47) (lv' := [(6, .int v47), (7, .int 1), (0, .ref (ad 0)), (1, .int p1), (2, .int p2), (3, .int r2), (4, .int r3), (5, .int x4)]) hx hb dX4_findMove_108 hl (k := 7) rfl (by rw [ev47]; rfl) (by decide) rfl (fun ls hl => ?_)
                  refine lv_goto (tgt := 23) hx hb dX4_findMove_111 (by decide) ?_
                  exact ih x4 v47 _ _ hw hP hD hS ls (lv_sub hl [2, 3, 4, 5, 6, 7, 0] rfl)
                · have hw := gq_f c46 hw
                  refine lv_iload hx hb dX4_findMove_87 (lv_at hl 6 rfl) ?_
                  refine lv_iconst (v := (-1)) hx hb dX4_findMove_89 (by decide) ?_
                  refine lv_icmp_eq (tgt := 104) hx hb dX4_findMove_90 (by decide) (fun c48 => ?_) (fun c48 => ?_)
                  · have hw := gq_t c48 hw
                    refine lv_iload hx hb dX4_findMove_104 (lv_at hl 7 rfl) ?_
                    refine lv_istore (lv' := [(5, .int x5), (7, .int 1), (0, .ref (ad 0)), (1, .int p1), (2, .int p2), (3, .int r2), (4, .int r3), (6, .int x5)]) hx hb dX4_findMove_106 hl (by decide) rfl (fun ls hl => ?_)
                    obtain ⟨v49, ev49⟩ : ∃ y : Int32, y = x5 + 1 := ⟨_, rfl⟩
                    have hw := gq_at1 hw ev49
                    refine lv_iinc (v := v49) (lv' := [(6, .int v49), (5, .int x5), (7, .int 1), (0, .ref (ad 0)), (1, .int p1), (2, .int p2), (3, .int r2), (4, .int r3)]) hx hb dX4_findMove_108 hl (k := 7) rfl (by rw [ev49]; rfl) (by decide) rfl (fun ls hl => ?_)
                    refine lv_goto (tgt := 23) hx hb dX4_findMove_111 (by decide) ?_
                    exact ih x5 v49 _ _ hw hP hD hS ls (lv_sub hl [3, 4, 5, 6, 7, 1, 0] rfl)
                  · have hw := gq_f c48 hw
                    refine lv_aload_n hx hb dX4_findMove_93 rfl (lv_at hl 1 rfl) ?_
                    refine lv_iload hx hb dX4_findMove_94 (lv_at hl 7 rfl) ?_
                    refine lv_iload hx hb dX4_findMove_96 (lv_at hl 6 rfl) ?_
                    refine gq_calli (wsN := fun _ => (wdH ad ck Pd Pm Ps Pg Pj Bt Bi Bf Br Rt Rl Rr Ra Wt Wa Wk Wd Wn We Wb Hv)) (va_runV (As := [.int x5, .int x4]) (rest := []) ⟨hx, hb, hml, hown, hts⟩ (c_X4_isBetterMove l D ad ck H.size Pd Pm Ps Pg Pj Bt Bi Bf Br Rt Rl Rr Ra Wt Wa Wk Wd Wn We Wb Hv x5 x4 _ hw) (cwV 2 hts gX4_findMove_X4_isBetterMove rfl rfl rfl (by decide +kernel) ⟨Nat.le_of_ble_eq_true rfl, Nat.le_of_ble_eq_true rfl⟩) (gq_preV hK [0, 1, 2, 3, 4, 5, 6, 7, 8, 9, 10] rfl hP hD [0, 1, 2, 3, 4, 5, 6, 7, 8, 9, 10, 11, 12, 13, 14, 15] rfl rfl hnw 4 0 rfl rfl) rfl rfl hl.1 rfl (lv_room (Nat.le_of_ble_eq_true rfl)) dX4_findMove_98 ⟨Nat.zero_le _, Nat.zero_le _⟩) hP hD hS hA [0, 1, 2, 3, 4, 5, 6, 7, 8, 9, 10, 11, 12, 13, 14, 15] [] rfl rfl rfl (by decide) [0, 1, 2, 3, 4, 5, 6, 7, 8, 9, 10, 11, 12, 13, 14, 15] rfl (fun _ => rfl) (fun r50 _ H locs hw hP hD hS => ?_)
                    refine lv_if_eq (tgt := 108) hx hb dX4_findMove_101 (by decide) (fun c51 => ?_) (fun c51 => ?_)
                    · have hw := gq_t c51 hw
                      obtain ⟨v52, ev52⟩ : ∃ y : Int32, y = x5 + 1 := ⟨_, rfl⟩
                      have hw := gq_at1 hw ev52
                      refine lv_iinc (v := v52) (lv' := [(6, .int v52), (7, .int 1), (0, .ref (ad 0)), (1, .int p1), (2, .int p2), (3, .int r2), (4, .int r3), (5, .int x4)]) hx hb dX4_findMove_108 hl (k := 7) rfl (by rw [ev52]; rfl) (by decide) rfl (fun ls hl => ?_)
                      refine lv_goto (tgt := 23) hx hb dX4_findMove_111 (by decide) ?_
                      exact ih x4 v52 _ _ hw hP hD hS ls (lv_sub hl [2, 3, 4, 5, 6, 7, 0] rfl)
                    · have hw := gq_f c51 hw
                      refine lv_iload hx hb dX4_findMove_104 (lv_at hl 7 rfl) ?_
                      refine lv_istore (lv' := [(5, .int x5), (7, .int 1), (0, .ref (ad 0)), (1, .int p1), (2, .int p2), (3, .int r2), (4, .int r3), (6, .int x5)]) hx hb dX4_findMove_106 hl (by decide) rfl (fun ls hl => ?_)
                      obtain ⟨v53, ev53⟩ : ∃ y : Int32, y = x5 + 1 := ⟨_, rfl⟩
                      have hw := gq_at1 hw ev53
                      refine lv_iinc (v := v53) (lv' := [(6, .int v53), (5, .int x5), (7, .int 1), (0, .ref (ad 0)), (1, .int p1), (2, .int p2), (3, .int r2), (4, .int r3)]) hx hb dX4_findMove_108 hl (k := 7) rfl (by rw [ev53]; rfl) (by decide) rfl (fun ls hl => ?_)
                      refine lv_goto (tgt := 23) hx hb dX4_findMove_111 (by decide) ?_
                      exact ih x5 v53 _ _ hw hP hD hS ls (lv_sub hl [3, 4, 5, 6, 7, 1, 0] rfl)
  obtain ⟨n, hw⟩ := hw
  exact hL23 n (-1) 0 _ _ hw hP hD hS ls (lv_sub hl [4, 5, 6, 3, 2, 1, 0] rfl)

def wp_X4_move (p1 : Int32) (p2 : Int32) (p3 : Int32) (Pd : Nat → Int32) (Ps : Int32) (Pg : Int32) (Pj : Int32) (Bt : Nat → Int32) (Bi : Nat → Int32) (Bf : Int32) (Br : Int32) (Ra : Nat → Int32) (Wk : Nat → Int32) (Wd : Int32) (We : Int32) (post : Int32 → (Nat → Int32) → (Nat → Int32) → Int32 → Int32 → Prop) : Prop :=
  (if p1 < 0 then post (-1) Bt Bi Bf Br else (if p2 < 0 then post (-1) Bt Bi Bf Br else wp_X4_bookNow Pd Ps Pg Pj Bt Bi Bf Br (fun (Bt_3 : Nat → Int32) (Bi_4 : Nat → Int32) (Bf_5 : Int32) (Br_6 : Int32) => wp_X3_count Bf_5 (fun (r7 : Int32) => (if r7 = (-1) then post (-1) Bt_3 Bi_4 Bf_5 Br_6 else wp_X4_findMove p1 p2 Ps Pg Pj Bi_4 Bf_5 Ra Wk Wd We (fun (r9 : Int32) => (if r9 = (-1) then post (-1) Bt_3 Bi_4 Bf_5 Br_6 else (if p3 = 0 then post r9 Bt_3 Bi_4 Bf_5 Br_6 else (if p3 = 1 then wp_X2_decoySet Wd (fun (r11 : Int32) => wp_J6_bitCount_0f7a4 (r9 &&& (r11 ^^^ (-1))) (fun (r12 : Int32) => post r12 Bt_3 Bi_4 Bf_5 Br_6)) else (if p3 = 2 then wp_X3_countTouchedBy r9 Bi_4 Bf_5 (fun (r13 : Int32) => post r13 Bt_3 Bi_4 Bf_5 Br_6) else post (-1) Bt_3 Bi_4 Bf_5 Br_6))))))))))

theorem iX4_move_X4 : ∀ w ∈ wsX40, w ∈ wsX4_move := by decide +kernel
set_option maxHeartbeats 4000000 in
set_option maxRecDepth 100000 in
theorem c_X4_move (l : Launch) (D : va_G) (ad : Nat → Nat) (ck : Nat → ClassId) (sz : Nat) (Pd : Nat → Int32) (Pm : Nat → Int32) (Ps : Int32) (Pg : Int32) (Pj : Int32) (Bt : Nat → Int32) (Bi : Nat → Int32) (Bf : Int32) (Br : Int32) (Rt : Nat → Int32) (Rl : Nat → Int32) (Rr : Nat → Int32) (Ra : Nat → Int32) (Wt : Nat → Int32) (Wa : Nat → Int32) (Wk : Nat → Int32) (Wd : Int32) (Wn : Int32) (We : Int32) (Wb : Int32) (Hv : Int32) (p1 : Int32) (p2 : Int32) (p3 : Int32) (post : Int32 → (Nat → Int32) → (Nat → Int32) → Int32 → Int32 → Prop) (hw : wp_X4_move p1 p2 p3 Pd Ps Pg Pj Bt Bi Bf Br Ra Wk Wd We post) : Met l yX4_move wsX4_move { frames := 11, cells := 0, slots := 0, locals := 280 } (va_Pc [.ref (ad 0), .int p1, .int p2, .int p3] (gq_pre D (tyH ck) (wdH ad ck Pd Pm Ps Pg Pj Bt Bi Bf Br Rt Rl Rr Ra Wt Wa Wk Wd Wn We Wb Hv) sz)) (va_Qi (fun (r : Int32) (u : (Nat → Int32) × (Nat → Int32) × Int32 × Int32) => post r u.1 u.2.1 u.2.2.1 u.2.2.2) (gq_at D (va_A (wdH ad ck Pd Pm Ps Pg Pj Bt Bi Bf Br Rt Rl Rr Ra Wt Wa Wk Wd Wn We Wb Hv) sz) (fun (u : (Nat → Int32) × (Nat → Int32) × Int32 × Int32) => (wdH ad ck Pd Pm Ps Pg Pj u.1 u.2.1 u.2.2.1 u.2.2.2 Rt Rl Rr Ra Wt Wa Wk Wd Wn We Wb Hv))) (va_A (wdH ad ck Pd Pm Ps Pg Pj Bt Bi Bf Br Rt Rl Rr Ra Wt Wa Wk Wd Wn We Wb Hv) sz)) 0 0 (va_A (wdH ad ck Pd Pm Ps Pg Pj Bt Bi Bf Br Rt Rl Rr Ra Wt Wa Wk Wd Wn We Wb Hv) sz) := by
  refine gq_meti (cc := cX4_move) (maxL := 5) (lv := [(0, .ref (ad 0)), (1, .int p1), (2, .int p2), (3, .int p3)]) (by decide) rfl (Nat.le_of_ble_eq_true rfl) rfl ?_
  intro p e s m below meth c A Q ls H locs hx hb hml hown hts hnw hA hK hP hD hS hl hz
  refine lv_iload_n hx hb dX4_move_0 rfl (lv_at hl 1 rfl) ?_
  refine lv_if_lt (tgt := 19) hx hb dX4_move_1 (by decide) (fun c1 => ?_) (fun c1 => ?_)
  · have hw := gq_t c1 hw
    refine lv_iconst (v := (-1)) hx hb dX4_move_19 (by decide) ?_
    exact hz (-1) (Bt, Bi, Bf, Br) _ _ _ _ dX4_move_20 hw hP hD hS
  · have hw := gq_f c1 hw
    refine lv_iload_n hx hb dX4_move_4 rfl (lv_at hl 2 rfl) ?_
    refine lv_if_lt (tgt := 19) hx hb dX4_move_5 (by decide) (fun c2 => ?_) (fun c2 => ?_)
    · have hw := gq_t c2 hw
      refine lv_iconst (v := (-1)) hx hb dX4_move_19 (by decide) ?_
      exact hz (-1) (Bt, Bi, Bf, Br) _ _ _ _ dX4_move_20 hw hP hD hS
    · have hw := gq_f c2 hw
      refine lv_aload_n hx hb dX4_move_8 rfl (lv_at hl 0 rfl) ?_
      refine gq_callr (wsN := fun u => (wdH ad ck Pd Pm Ps Pg Pj u.1 u.2.1 u.2.2.1 u.2.2.2 Rt Rl Rr Ra Wt Wa Wk Wd Wn We Wb Hv)) (va_runV (As := []) (rest := []) ⟨hx, hb, hml, hown, hts⟩ (c_X4_bookNow l D ad ck H.size Pd Pm Ps Pg Pj Bt Bi Bf Br Rt Rl Rr Ra Wt Wa Wk Wd Wn We Wb Hv  _ hw) (cwV 0 hts gX4_move_X4_bookNow rfl rfl rfl (by decide +kernel) ⟨Nat.le_of_ble_eq_true rfl, Nat.le_of_ble_eq_true rfl⟩) (gq_preV hK [0, 1, 2, 3, 4, 5, 6, 7, 8, 9, 10] rfl hP hD [0, 1, 2, 3, 4, 5, 6, 7, 8, 9, 10, 11, 12, 13, 14, 15] rfl rfl hnw 4 0 rfl rfl) rfl rfl hl.1 rfl (lv_room (Nat.le_of_ble_eq_true rfl)) dX4_move_9 ⟨Nat.zero_le _, Nat.zero_le _⟩) hP hD hS hA [0, 1, 2, 3, 4, 5, 6, 7, 8, 9, 10, 11, 12, 13, 14, 15] [] rfl rfl rfl (by decide) [0, 1, 2, 3, 4, 5, 6, 7, 8, 9, 10, 11, 12, 13, 14, 15] rfl (fun _ => rfl) (fun u_ H locs hw hP hD hS => ?_)
      obtain ⟨Bt_3, Bi_4, Bf_5, Br_6⟩ := u_
      have hP : va_P D vwCl (wdH ad ck Pd Pm Ps Pg Pj Bt_3 Bi_4 Bf_5 Br_6 Rt Rl Rr Ra Wt Wa Wk Wd Wn We Wb Hv) H := hP
      have hD : va_D A (wdH ad ck Pd Pm Ps Pg Pj Bt_3 Bi_4 Bf_5 Br_6 Rt Rl Rr Ra Wt Wa Wk Wd Wn We Wb Hv) := hD
      refine gq_calli (wsN := fun _ => (wdH ad ck Pd Pm Ps Pg Pj Bt_3 Bi_4 Bf_5 Br_6 Rt Rl Rr Ra Wt Wa Wk Wd Wn We Wb Hv)) (va_runV (As := []) (rest := []) ⟨hx, hb, hml, hown, hts⟩ (c_X3_count l D ad ck H.size Bt_3 Bi_4 Bf_5 Br_6  _ hw) (cwV 0 hts gX4_move_X3_count rfl rfl rfl (by decide +kernel) ⟨Nat.le_of_ble_eq_true rfl, Nat.le_of_ble_eq_true rfl⟩) (gq_preV hK [2, 3] rfl hP hD [4, 5, 6] rfl rfl hnw 3 0 rfl rfl) rfl rfl hl.1 rfl (lv_room (Nat.le_of_ble_eq_true rfl)) dX4_move_12 ⟨Nat.zero_le _, Nat.zero_le _⟩) hP hD hS hA [4, 5, 6] [0, 1, 2, 3, 7, 8, 9, 10, 11, 12, 13, 14, 15] rfl rfl rfl (by decide) [0, 1, 2, 3, 13, 14, 15, 4, 5, 6, 7, 8, 9, 10, 11, 12] rfl (fun _ => rfl) (fun r7 _ H locs hw hP hD hS => ?_)
      refine lv_iconst (v := (-1)) hx hb dX4_move_15 (by decide) ?_
      refine lv_icmp_ne (tgt := 21) hx hb dX4_move_16 (by decide) (fun c8 => ?_) (fun c8 => ?_)
      · have hw := gq_f c8 hw
        refine lv_aload_n hx hb dX4_move_21 rfl (lv_at hl 0 rfl) ?_
        refine lv_iload_n hx hb dX4_move_22 rfl (lv_at hl 1 rfl) ?_
        refine lv_iload_n hx hb dX4_move_23 rfl (lv_at hl 2 rfl) ?_
        refine gq_calli (wsN := fun _ => (wdH ad ck Pd Pm Ps Pg Pj Bt_3 Bi_4 Bf_5 Br_6 Rt Rl Rr Ra Wt Wa Wk Wd Wn We Wb Hv)) (va_runV (As := [.int p1, .int p2]) (rest := []) ⟨hx, hb, hml, hown, hts⟩ (c_X4_findMove l D ad ck H.size Pd Pm Ps Pg Pj Bt_3 Bi_4 Bf_5 Br_6 Rt Rl Rr Ra Wt Wa Wk Wd Wn We Wb Hv p1 p2 _ hw) (cwV 2 hts gX4_move_X4_findMove rfl rfl rfl (by decide +kernel) ⟨Nat.le_of_ble_eq_true rfl, Nat.le_of_ble_eq_true rfl⟩) (gq_preV hK [0, 1, 2, 3, 4, 5, 6, 7, 8, 9, 10] rfl hP hD [0, 1, 2, 3, 4, 5, 6, 7, 8, 9, 10, 11, 12, 13, 14, 15] rfl rfl hnw 4 0 rfl rfl) rfl rfl hl.1 rfl (lv_room (Nat.le_of_ble_eq_true rfl)) dX4_move_24 ⟨Nat.zero_le _, Nat.zero_le _⟩) hP hD hS hA [0, 1, 2, 3, 4, 5, 6, 7, 8, 9, 10, 11, 12, 13, 14, 15] [] rfl rfl rfl (by decide) [0, 1, 2, 3, 4, 5, 6, 7, 8, 9, 10, 11, 12, 13, 14, 15] rfl (fun _ => rfl) (fun r9 _ H locs hw hP hD hS => ?_)
        refine lv_istore (lv' := [(4, .int r9), (0, .ref (ad 0)), (1, .int p1), (2, .int p2), (3, .int p3)]) hx hb dX4_move_27 hl (by decide) rfl (fun ls hl => ?_)
        refine lv_iload hx hb dX4_move_29 (lv_at hl 0 rfl) ?_
        refine lv_iconst (v := (-1)) hx hb dX4_move_31 (by decide) ?_
        refine lv_icmp_ne (tgt := 37) hx hb dX4_move_32 (by decide) (fun c10 => ?_) (fun c10 => ?_)
        · have hw := gq_f c10 hw
          refine lv_iload_n hx hb dX4_move_37 rfl (lv_at hl 4 rfl) ?_
          rcases Decidable.em (p3 = 0) with cs38_0 | cs38_0
          · have hw := gq_t cs38_0 hw
            refine lv_tableIn (off := 26) (tgt := 64) hx hb dX4_move_38 (by rw [cs38_0]; decide) (by rw [cs38_0]; decide) (by rw [cs38_0]; decide) (by decide) ?_
            refine lv_iload hx hb dX4_move_64 (lv_at hl 0 rfl) ?_
            exact hz r9 (Bt_3, Bi_4, Bf_5, Br_6) _ _ _ _ dX4_move_66 hw hP hD hS
          · have hw := gq_f cs38_0 hw
            rcases Decidable.em (p3 = 1) with cs38_1 | cs38_1
            · have hw := gq_t cs38_1 hw
              refine lv_tableIn (off := 29) (tgt := 67) hx hb dX4_move_38 (by rw [cs38_1]; decide) (by rw [cs38_1]; decide) (by rw [cs38_1]; decide) (by decide) ?_
              refine lv_iload hx hb dX4_move_67 (lv_at hl 0 rfl) ?_
              refine lv_aload_n hx hb dX4_move_69 rfl (lv_at hl 1 rfl) ?_
              refine va_get (D := D) (ci := 4) (v := .ref (ad 12)) (C := RX4) (T := TX4) (N := 5) hx hb hts iX4_move_X4 hown hK hP 0 rfl rfl 3 (by decide) (hts (.fieldLink RX4 33 "DecoyHouse" "watch" "LDecoyHouse$Watch;") (by decide +kernel)) (fun _ h9 => h9) rfl dX4_move_70 ?_
              refine gq_calli (wsN := fun _ => (wdH ad ck Pd Pm Ps Pg Pj Bt_3 Bi_4 Bf_5 Br_6 Rt Rl Rr Ra Wt Wa Wk Wd Wn We Wb Hv)) (va_runV (As := []) (rest := [.int r9]) ⟨hx, hb, hml, hown, hts⟩ (c_X2_decoySet l D ad ck H.size Wt Wa Wk Wd Wn We Wb  _ hw) (cwV 0 hts gX4_move_X2_decoySet rfl rfl rfl (by decide +kernel) ⟨Nat.le_of_ble_eq_true rfl, Nat.le_of_ble_eq_true rfl⟩) (gq_preV hK [8, 9, 10] rfl hP hD [12, 13, 14, 15] rfl rfl hnw 2 0 rfl rfl) rfl rfl hl.1 rfl (lv_room (Nat.le_of_ble_eq_true rfl)) dX4_move_73 ⟨Nat.zero_le _, Nat.zero_le _⟩) hP hD hS hA [12, 13, 14, 15] [0, 1, 2, 3, 4, 5, 6, 7, 8, 9, 10, 11] rfl rfl rfl (by decide) [0, 1, 2, 3, 4, 5, 6, 7, 8, 9, 10, 11, 12, 13, 14, 15] rfl (fun _ => rfl) (fun r11 _ H locs hw hP hD hS => ?_)
              refine lv_iconst (v := (-1)) hx hb dX4_move_76 (by decide) ?_
              refine lv_ixor hx hb dX4_move_77 ?_
              refine lv_iand hx hb dX4_move_78 ?_
              refine gq_calli (wsN := fun _ => (wdH ad ck Pd Pm Ps Pg Pj Bt_3 Bi_4 Bf_5 Br_6 Rt Rl Rr Ra Wt Wa Wk Wd Wn We Wb Hv)) (va_runS (As := [.int (r9 &&& (r11 ^^^ (-1)))]) (rest := []) ⟨hx, hb, hml, hown, hts⟩ (c_J6_bitCount_0f7a4 l D H.size (r9 &&& (r11 ^^^ (-1))) _ hw) (va_cwS 1 hts gX4_move_J6_bitCount_0f7a4 rfl rfl rfl (by decide +kernel) ⟨Nat.le_of_ble_eq_true rfl, Nat.le_of_ble_eq_true rfl⟩) (gq_preS hK [] rfl hP hD [] rfl rfl hnw) rfl rfl hl.1 rfl (lv_room (Nat.le_of_ble_eq_true rfl)) dX4_move_79 ⟨Nat.zero_le _, Nat.zero_le _⟩) hP hD hS hA [] [0, 1, 2, 3, 4, 5, 6, 7, 8, 9, 10, 11, 12, 13, 14, 15] rfl rfl rfl (by decide) [0, 1, 2, 3, 4, 5, 6, 7, 8, 9, 10, 11, 12, 13, 14, 15] rfl (fun _ => rfl) (fun r12 _ H locs hw hP hD hS => ?_)
              exact hz r12 (Bt_3, Bi_4, Bf_5, Br_6) _ _ _ _ dX4_move_82 hw hP hD hS
            · have hw := gq_f cs38_1 hw
              rcases Decidable.em (p3 = 2) with cs38_2 | cs38_2
              · have hw := gq_t cs38_2 hw
                refine lv_tableIn (off := 45) (tgt := 83) hx hb dX4_move_38 (by rw [cs38_2]; decide) (by rw [cs38_2]; decide) (by rw [cs38_2]; decide) (by decide) ?_
                refine lv_aload_n hx hb dX4_move_83 rfl (lv_at hl 1 rfl) ?_
                refine va_get (D := D) (ci := 4) (v := .ref (ad 4)) (C := RX4) (T := TX4) (N := 5) hx hb hts iX4_move_X4 hown hK hP 0 rfl rfl 1 (by decide) (hts (.fieldLink RX4 19 "DecoyHouse" "book" "LDecoyHouse$WayBook;") (by decide +kernel)) (fun _ h9 => h9) rfl dX4_move_84 ?_
                refine lv_iload hx hb dX4_move_87 (lv_at hl 0 rfl) ?_
                refine gq_calli (wsN := fun _ => (wdH ad ck Pd Pm Ps Pg Pj Bt_3 Bi_4 Bf_5 Br_6 Rt Rl Rr Ra Wt Wa Wk Wd Wn We Wb Hv)) (va_runV (As := [.int r9]) (rest := []) ⟨hx, hb, hml, hown, hts⟩ (c_X3_countTouchedBy l D ad ck H.size Bt_3 Bi_4 Bf_5 Br_6 r9 _ hw) (cwV 1 hts gX4_move_X3_countTouchedBy rfl rfl rfl (by decide +kernel) ⟨Nat.le_of_ble_eq_true rfl, Nat.le_of_ble_eq_true rfl⟩) (gq_preV hK [2, 3] rfl hP hD [4, 5, 6] rfl rfl hnw 3 0 rfl rfl) rfl rfl hl.1 rfl (lv_room (Nat.le_of_ble_eq_true rfl)) dX4_move_89 ⟨Nat.zero_le _, Nat.zero_le _⟩) hP hD hS hA [4, 5, 6] [0, 1, 2, 3, 7, 8, 9, 10, 11, 12, 13, 14, 15] rfl rfl rfl (by decide) [0, 1, 2, 3, 13, 14, 15, 4, 5, 6, 7, 8, 9, 10, 11, 12] rfl (fun _ => rfl) (fun r13 _ H locs hw hP hD hS => ?_)
                exact hz r13 (Bt_3, Bi_4, Bf_5, Br_6) _ _ _ _ dX4_move_92 hw hP hD hS
              · have hw := gq_f cs38_2 hw
                refine lv_tableOut (tgt := 93) hx hb dX4_move_38 (gq_out 3 (fun k hk => by match k, hk with | 0, _ => exact cs38_0 | 1, _ => exact cs38_1 | 2, _ => exact cs38_2 | k + 3, hk => omega)) (by decide) ?_
                refine lv_iconst (v := (-1)) hx hb dX4_move_93 (by decide) ?_
                exact hz (-1) (Bt_3, Bi_4, Bf_5, Br_6) _ _ _ _ dX4_move_94 hw hP hD hS
        · have hw := gq_t c10 hw
          refine lv_iconst (v := (-1)) hx hb dX4_move_35 (by decide) ?_
          exact hz (-1) (Bt_3, Bi_4, Bf_5, Br_6) _ _ _ _ dX4_move_36 hw hP hD hS
      · have hw := gq_t c8 hw
        refine lv_iconst (v := (-1)) hx hb dX4_move_19 (by decide) ?_
        exact hz (-1) (Bt_3, Bi_4, Bf_5, Br_6) _ _ _ _ dX4_move_20 hw hP hD hS

