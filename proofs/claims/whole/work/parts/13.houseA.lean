def wp_X4_beginAnew (p1 : Int32) (Pd : Nat → Int32) (Pm : Nat → Int32) (Ps : Int32) (Pg : Int32) (Pj : Int32) (Br : Int32) (Rt : Nat → Int32) (Rl : Nat → Int32) (Rr : Nat → Int32) (Ra : Nat → Int32) (Wa : Nat → Int32) (Wk : Nat → Int32) (Wd : Int32) (Wn : Int32) (We : Int32) (Wb : Int32) (Hv : Int32) (post : (Nat → Int32) → (Nat → Int32) → Int32 → Int32 → Int32 → Int32 → (Nat → Int32) → (Nat → Int32) → (Nat → Int32) → (Nat → Int32) → (Nat → Int32) → (Nat → Int32) → Int32 → Int32 → Int32 → Int32 → Int32 → Prop) : Prop :=
  wp_X0_clear p1 Pd Pm Ps Pg Pj (fun (Pd_1 : Nat → Int32) (Pm_2 : Nat → Int32) (Ps_3 : Int32) (Pg_4 : Int32) (Pj_5 : Int32) => wp_X3_forget Br (fun (Br_6 : Int32) => wp_X1_clear Rt Rl Rr Ra (fun (Rt_7 : Nat → Int32) (Rl_8 : Nat → Int32) (Rr_9 : Nat → Int32) (Ra_10 : Nat → Int32) => wp_X2_clear Wa Wk Wd Wn We Wb (fun (Wa_11 : Nat → Int32) (Wk_12 : Nat → Int32) (Wd_13 : Int32) (Wn_14 : Int32) (We_15 : Int32) (Wb_16 : Int32) => post Pd_1 Pm_2 Ps_3 Pg_4 Pj_5 Br_6 Rt_7 Rl_8 Rr_9 Ra_10 Wa_11 Wk_12 Wd_13 Wn_14 We_15 Wb_16 255))))

theorem iX4_beginAnew_X4 : ∀ w ∈ wsX40, w ∈ wsX4_beginAnew := by decide +kernel
set_option maxHeartbeats 4000000 in
set_option maxRecDepth 100000 in
theorem c_X4_beginAnew (l : Launch) (D : va_G) (ad : Nat → Nat) (ck : Nat → ClassId) (sz : Nat) (Pd : Nat → Int32) (Pm : Nat → Int32) (Ps : Int32) (Pg : Int32) (Pj : Int32) (Bt : Nat → Int32) (Bi : Nat → Int32) (Bf : Int32) (Br : Int32) (Rt : Nat → Int32) (Rl : Nat → Int32) (Rr : Nat → Int32) (Ra : Nat → Int32) (Wt : Nat → Int32) (Wa : Nat → Int32) (Wk : Nat → Int32) (Wd : Int32) (Wn : Int32) (We : Int32) (Wb : Int32) (Hv : Int32) (p1 : Int32) (post : (Nat → Int32) → (Nat → Int32) → Int32 → Int32 → Int32 → Int32 → (Nat → Int32) → (Nat → Int32) → (Nat → Int32) → (Nat → Int32) → (Nat → Int32) → (Nat → Int32) → Int32 → Int32 → Int32 → Int32 → Int32 → Prop) (hw : wp_X4_beginAnew p1 Pd Pm Ps Pg Pj Br Rt Rl Rr Ra Wa Wk Wd Wn We Wb Hv post) : Met l yX4_beginAnew wsX4_beginAnew { frames := 2, cells := 0, slots := 0, locals := 44 } (va_Pc [.ref (ad 0), .int p1] (gq_pre D (tyH ck) (wdH ad ck Pd Pm Ps Pg Pj Bt Bi Bf Br Rt Rl Rr Ra Wt Wa Wk Wd Wn We Wb Hv) sz)) (va_Qv (fun (u : (Nat → Int32) × (Nat → Int32) × Int32 × Int32 × Int32 × Int32 × (Nat → Int32) × (Nat → Int32) × (Nat → Int32) × (Nat → Int32) × (Nat → Int32) × (Nat → Int32) × Int32 × Int32 × Int32 × Int32 × Int32) => post u.1 u.2.1 u.2.2.1 u.2.2.2.1 u.2.2.2.2.1 u.2.2.2.2.2.1 u.2.2.2.2.2.2.1 u.2.2.2.2.2.2.2.1 u.2.2.2.2.2.2.2.2.1 u.2.2.2.2.2.2.2.2.2.1 u.2.2.2.2.2.2.2.2.2.2.1 u.2.2.2.2.2.2.2.2.2.2.2.1 u.2.2.2.2.2.2.2.2.2.2.2.2.1 u.2.2.2.2.2.2.2.2.2.2.2.2.2.1 u.2.2.2.2.2.2.2.2.2.2.2.2.2.2.1 u.2.2.2.2.2.2.2.2.2.2.2.2.2.2.2.1 u.2.2.2.2.2.2.2.2.2.2.2.2.2.2.2.2) (gq_at D (va_A (wdH ad ck Pd Pm Ps Pg Pj Bt Bi Bf Br Rt Rl Rr Ra Wt Wa Wk Wd Wn We Wb Hv) sz) (fun (u : (Nat → Int32) × (Nat → Int32) × Int32 × Int32 × Int32 × Int32 × (Nat → Int32) × (Nat → Int32) × (Nat → Int32) × (Nat → Int32) × (Nat → Int32) × (Nat → Int32) × Int32 × Int32 × Int32 × Int32 × Int32) => (wdH ad ck u.1 u.2.1 u.2.2.1 u.2.2.2.1 u.2.2.2.2.1 Bt Bi Bf u.2.2.2.2.2.1 u.2.2.2.2.2.2.1 u.2.2.2.2.2.2.2.1 u.2.2.2.2.2.2.2.2.1 u.2.2.2.2.2.2.2.2.2.1 Wt u.2.2.2.2.2.2.2.2.2.2.1 u.2.2.2.2.2.2.2.2.2.2.2.1 u.2.2.2.2.2.2.2.2.2.2.2.2.1 u.2.2.2.2.2.2.2.2.2.2.2.2.2.1 u.2.2.2.2.2.2.2.2.2.2.2.2.2.2.1 u.2.2.2.2.2.2.2.2.2.2.2.2.2.2.2.1 u.2.2.2.2.2.2.2.2.2.2.2.2.2.2.2.2))) (va_A (wdH ad ck Pd Pm Ps Pg Pj Bt Bi Bf Br Rt Rl Rr Ra Wt Wa Wk Wd Wn We Wb Hv) sz)) 0 0 (va_A (wdH ad ck Pd Pm Ps Pg Pj Bt Bi Bf Br Rt Rl Rr Ra Wt Wa Wk Wd Wn We Wb Hv) sz) := by
  refine gq_metv (cc := cX4_beginAnew) (maxL := 2) (lv := [(0, .ref (ad 0)), (1, .int p1)]) (by decide) rfl (Nat.le_of_ble_eq_true rfl) rfl ?_
  intro p e s m below meth c A Q ls H locs hx hb hml hown hts hnw hA hK hP hD hS hl hz
  refine lv_aload_n hx hb dX4_beginAnew_0 rfl (lv_at hl 0 rfl) ?_
  refine va_get (D := D) (ci := 4) (v := .ref (ad 1)) (C := RX4) (T := TX4) (N := 5) hx hb hts iX4_beginAnew_X4 hown hK hP 0 rfl rfl 0 (by decide) (hts (.fieldLink RX4 12 "DecoyHouse" "plan" "LDecoyHouse$Plan;") (by decide +kernel)) (fun _ h9 => h9) rfl dX4_beginAnew_1 ?_
  refine lv_iload_n hx hb dX4_beginAnew_4 rfl (lv_at hl 1 rfl) ?_
  refine gq_callv (wsN := fun u => (wdH ad ck u.1 u.2.1 u.2.2.1 u.2.2.2.1 u.2.2.2.2 Bt Bi Bf Br Rt Rl Rr Ra Wt Wa Wk Wd Wn We Wb Hv)) (va_runV (As := [.int p1]) (rest := []) ⟨hx, hb, hml, hown, hts⟩ (c_X0_clear l D ad ck H.size Pd Pm Ps Pg Pj p1 _ hw) (cwV 1 hts gX4_beginAnew_X0_clear rfl rfl rfl (by decide +kernel) ⟨Nat.le_of_ble_eq_true rfl, Nat.le_of_ble_eq_true rfl⟩) (gq_preV hK [0, 1] rfl hP hD [1, 2, 3] rfl rfl hnw 0 0 rfl rfl) rfl rfl hl.1 rfl (lv_room (Nat.le_of_ble_eq_true rfl)) dX4_beginAnew_5 ⟨Nat.zero_le _, Nat.zero_le _⟩) hP hD hS hA [1, 2, 3] [0, 4, 5, 6, 7, 8, 9, 10, 11, 12, 13, 14, 15] rfl rfl rfl (by decide) [0, 13, 14, 15, 1, 2, 3, 4, 5, 6, 7, 8, 9, 10, 11, 12] rfl (fun _ => rfl) (fun u_ H locs hw hP hD hS => ?_)
  obtain ⟨Pd_1, Pm_2, Ps_3, Pg_4, Pj_5⟩ := u_
  have hP : va_P D vwCl (wdH ad ck Pd_1 Pm_2 Ps_3 Pg_4 Pj_5 Bt Bi Bf Br Rt Rl Rr Ra Wt Wa Wk Wd Wn We Wb Hv) H := hP
  have hD : va_D A (wdH ad ck Pd_1 Pm_2 Ps_3 Pg_4 Pj_5 Bt Bi Bf Br Rt Rl Rr Ra Wt Wa Wk Wd Wn We Wb Hv) := hD
  refine lv_aload_n hx hb dX4_beginAnew_8 rfl (lv_at hl 0 rfl) ?_
  refine va_get (D := D) (ci := 4) (v := .ref (ad 4)) (C := RX4) (T := TX4) (N := 5) hx hb hts iX4_beginAnew_X4 hown hK hP 0 rfl rfl 1 (by decide) (hts (.fieldLink RX4 19 "DecoyHouse" "book" "LDecoyHouse$WayBook;") (by decide +kernel)) (fun _ h9 => h9) rfl dX4_beginAnew_9 ?_
  refine gq_callv (wsN := fun u => (wdH ad ck Pd_1 Pm_2 Ps_3 Pg_4 Pj_5 Bt Bi Bf u Rt Rl Rr Ra Wt Wa Wk Wd Wn We Wb Hv)) (va_runV (As := []) (rest := []) ⟨hx, hb, hml, hown, hts⟩ (c_X3_forget l D ad ck H.size Bt Bi Bf Br  _ hw) (cwV 0 hts gX4_beginAnew_X3_forget rfl rfl rfl (by decide +kernel) ⟨Nat.le_of_ble_eq_true rfl, Nat.le_of_ble_eq_true rfl⟩) (gq_preV hK [2, 3] rfl hP hD [4, 5, 6] rfl rfl hnw 3 0 rfl rfl) rfl rfl hl.1 rfl (lv_room (Nat.le_of_ble_eq_true rfl)) dX4_beginAnew_12 ⟨Nat.zero_le _, Nat.zero_le _⟩) hP hD hS hA [4, 5, 6] [0, 1, 2, 3, 7, 8, 9, 10, 11, 12, 13, 14, 15] rfl rfl rfl (by decide) [0, 1, 2, 3, 13, 14, 15, 4, 5, 6, 7, 8, 9, 10, 11, 12] rfl (fun _ => rfl) (fun Br_6 H locs hw hP hD hS => ?_)
  have hP : va_P D vwCl (wdH ad ck Pd_1 Pm_2 Ps_3 Pg_4 Pj_5 Bt Bi Bf Br_6 Rt Rl Rr Ra Wt Wa Wk Wd Wn We Wb Hv) H := hP
  have hD : va_D A (wdH ad ck Pd_1 Pm_2 Ps_3 Pg_4 Pj_5 Bt Bi Bf Br_6 Rt Rl Rr Ra Wt Wa Wk Wd Wn We Wb Hv) := hD
  refine lv_aload_n hx hb dX4_beginAnew_15 rfl (lv_at hl 0 rfl) ?_
  refine va_get (D := D) (ci := 4) (v := .ref (ad 7)) (C := RX4) (T := TX4) (N := 5) hx hb hts iX4_beginAnew_X4 hown hK hP 0 rfl rfl 2 (by decide) (hts (.fieldLink RX4 26 "DecoyHouse" "rounds" "LDecoyHouse$Rounds;") (by decide +kernel)) (fun _ h9 => h9) rfl dX4_beginAnew_16 ?_
  refine gq_callv (wsN := fun u => (wdH ad ck Pd_1 Pm_2 Ps_3 Pg_4 Pj_5 Bt Bi Bf Br_6 u.1 u.2.1 u.2.2.1 u.2.2.2 Wt Wa Wk Wd Wn We Wb Hv)) (va_runV (As := []) (rest := []) ⟨hx, hb, hml, hown, hts⟩ (c_X1_clear l D ad ck H.size Rt Rl Rr Ra  _ hw) (cwV 0 hts gX4_beginAnew_X1_clear rfl rfl rfl (by decide +kernel) ⟨Nat.le_of_ble_eq_true rfl, Nat.le_of_ble_eq_true rfl⟩) (gq_preV hK [4, 5, 6, 7] rfl hP hD [7, 8, 9, 10, 11] rfl rfl hnw 1 0 rfl rfl) rfl rfl hl.1 rfl (lv_room (Nat.le_of_ble_eq_true rfl)) dX4_beginAnew_19 ⟨Nat.zero_le _, Nat.zero_le _⟩) hP hD hS hA [7, 8, 9, 10, 11] [0, 1, 2, 3, 4, 5, 6, 12, 13, 14, 15] rfl rfl rfl (by decide) [0, 1, 2, 3, 4, 5, 6, 11, 12, 13, 14, 15, 7, 8, 9, 10] rfl (fun _ => rfl) (fun u_ H locs hw hP hD hS => ?_)
  obtain ⟨Rt_7, Rl_8, Rr_9, Ra_10⟩ := u_
  have hP : va_P D vwCl (wdH ad ck Pd_1 Pm_2 Ps_3 Pg_4 Pj_5 Bt Bi Bf Br_6 Rt_7 Rl_8 Rr_9 Ra_10 Wt Wa Wk Wd Wn We Wb Hv) H := hP
  have hD : va_D A (wdH ad ck Pd_1 Pm_2 Ps_3 Pg_4 Pj_5 Bt Bi Bf Br_6 Rt_7 Rl_8 Rr_9 Ra_10 Wt Wa Wk Wd Wn We Wb Hv) := hD
  refine lv_aload_n hx hb dX4_beginAnew_22 rfl (lv_at hl 0 rfl) ?_
  refine va_get (D := D) (ci := 4) (v := .ref (ad 12)) (C := RX4) (T := TX4) (N := 5) hx hb hts iX4_beginAnew_X4 hown hK hP 0 rfl rfl 3 (by decide) (hts (.fieldLink RX4 33 "DecoyHouse" "watch" "LDecoyHouse$Watch;") (by decide +kernel)) (fun _ h9 => h9) rfl dX4_beginAnew_23 ?_
  refine gq_callv (wsN := fun u => (wdH ad ck Pd_1 Pm_2 Ps_3 Pg_4 Pj_5 Bt Bi Bf Br_6 Rt_7 Rl_8 Rr_9 Ra_10 Wt u.1 u.2.1 u.2.2.1 u.2.2.2.1 u.2.2.2.2.1 u.2.2.2.2.2 Hv)) (va_runV (As := []) (rest := []) ⟨hx, hb, hml, hown, hts⟩ (c_X2_clear l D ad ck H.size Wt Wa Wk Wd Wn We Wb  _ hw) (cwV 0 hts gX4_beginAnew_X2_clear rfl rfl rfl (by decide +kernel) ⟨Nat.le_of_ble_eq_true rfl, Nat.le_of_ble_eq_true rfl⟩) (gq_preV hK [8, 9, 10] rfl hP hD [12, 13, 14, 15] rfl rfl hnw 2 0 rfl rfl) rfl rfl hl.1 rfl (lv_room (Nat.le_of_ble_eq_true rfl)) dX4_beginAnew_26 ⟨Nat.zero_le _, Nat.zero_le _⟩) hP hD hS hA [12, 13, 14, 15] [0, 1, 2, 3, 4, 5, 6, 7, 8, 9, 10, 11] rfl rfl rfl (by decide) [0, 1, 2, 3, 4, 5, 6, 7, 8, 9, 10, 11, 12, 13, 14, 15] rfl (fun _ => rfl) (fun u_ H locs hw hP hD hS => ?_)
  obtain ⟨Wa_11, Wk_12, Wd_13, Wn_14, We_15, Wb_16⟩ := u_
  have hP : va_P D vwCl (wdH ad ck Pd_1 Pm_2 Ps_3 Pg_4 Pj_5 Bt Bi Bf Br_6 Rt_7 Rl_8 Rr_9 Ra_10 Wt Wa_11 Wk_12 Wd_13 Wn_14 We_15 Wb_16 Hv) H := hP
  have hD : va_D A (wdH ad ck Pd_1 Pm_2 Ps_3 Pg_4 Pj_5 Bt Bi Bf Br_6 Rt_7 Rl_8 Rr_9 Ra_10 Wt Wa_11 Wk_12 Wd_13 Wn_14 We_15 Wb_16 Hv) := hD
  refine lv_aload_n hx hb dX4_beginAnew_29 rfl (lv_at hl 0 rfl) ?_
  refine lv_sipush (v := 255) hx hb dX4_beginAnew_30 (by decide) ?_
  refine va_put (D := D) (ci := 4) (v := .int 255) (ty := .int) (C := RX4) (T := TX4) (N := 5) hx hb hts iX4_beginAnew_X4 tyX4 tyX4_ok nmX4 hown hK hP hD hS 0 rfl rfl 4 (by decide) (hts (.fieldLink RX4 72 "DecoyHouse" "visibleMarks" "I") (by decide +kernel)) (fun _ h9 => h9) rfl (by decide +kernel) rfl rfl (Nat.le_of_ble_eq_true rfl) dX4_beginAnew_33 (fun H locs hP hD hS => ?_)
  have hP : va_P D vwCl (wdH ad ck Pd_1 Pm_2 Ps_3 Pg_4 Pj_5 Bt Bi Bf Br_6 Rt_7 Rl_8 Rr_9 Ra_10 Wt Wa_11 Wk_12 Wd_13 Wn_14 We_15 Wb_16 255) H := hP
  have hD : va_D A (wdH ad ck Pd_1 Pm_2 Ps_3 Pg_4 Pj_5 Bt Bi Bf Br_6 Rt_7 Rl_8 Rr_9 Ra_10 Wt Wa_11 Wk_12 Wd_13 Wn_14 We_15 Wb_16 255) := hD
  exact hz (Pd_1, Pm_2, Ps_3, Pg_4, Pj_5, Br_6, Rt_7, Rl_8, Rr_9, Ra_10, Wa_11, Wk_12, Wd_13, Wn_14, We_15, Wb_16, 255) _ _ _ _ dX4_beginAnew_36 hw hP hD hS

def wp_X4_house (p1 : Int32) (Pd : Nat → Int32) (Pm : Nat → Int32) (Ps : Int32) (Pg : Int32) (Pj : Int32) (Br : Int32) (Rt : Nat → Int32) (Rl : Nat → Int32) (Rr : Nat → Int32) (Ra : Nat → Int32) (Wa : Nat → Int32) (Wk : Nat → Int32) (Wd : Int32) (Wn : Int32) (We : Int32) (Wb : Int32) (Hv : Int32) (post : Int32 → (Nat → Int32) → (Nat → Int32) → Int32 → Int32 → Int32 → Int32 → (Nat → Int32) → (Nat → Int32) → (Nat → Int32) → (Nat → Int32) → (Nat → Int32) → (Nat → Int32) → Int32 → Int32 → Int32 → Int32 → Int32 → Prop) : Prop :=
  (if p1 < 2 then post 0 Pd Pm Ps Pg Pj Br Rt Rl Rr Ra Wa Wk Wd Wn We Wb Hv else (if p1 ≤ 9 then wp_X4_beginAnew p1 Pd Pm Ps Pg Pj Br Rt Rl Rr Ra Wa Wk Wd Wn We Wb Hv (fun (Pd_3 : Nat → Int32) (Pm_4 : Nat → Int32) (Ps_5 : Int32) (Pg_6 : Int32) (Pj_7 : Int32) (Br_8 : Int32) (Rt_9 : Nat → Int32) (Rl_10 : Nat → Int32) (Rr_11 : Nat → Int32) (Ra_12 : Nat → Int32) (Wa_13 : Nat → Int32) (Wk_14 : Nat → Int32) (Wd_15 : Int32) (Wn_16 : Int32) (We_17 : Int32) (Wb_18 : Int32) (Hv_19 : Int32) => post 1 Pd_3 Pm_4 Ps_5 Pg_6 Pj_7 Br_8 Rt_9 Rl_10 Rr_11 Ra_12 Wa_13 Wk_14 Wd_15 Wn_16 We_17 Wb_18 Hv_19) else post 0 Pd Pm Ps Pg Pj Br Rt Rl Rr Ra Wa Wk Wd Wn We Wb Hv))

set_option maxHeartbeats 4000000 in
set_option maxRecDepth 100000 in
theorem c_X4_house (l : Launch) (D : va_G) (ad : Nat → Nat) (ck : Nat → ClassId) (sz : Nat) (Pd : Nat → Int32) (Pm : Nat → Int32) (Ps : Int32) (Pg : Int32) (Pj : Int32) (Bt : Nat → Int32) (Bi : Nat → Int32) (Bf : Int32) (Br : Int32) (Rt : Nat → Int32) (Rl : Nat → Int32) (Rr : Nat → Int32) (Ra : Nat → Int32) (Wt : Nat → Int32) (Wa : Nat → Int32) (Wk : Nat → Int32) (Wd : Int32) (Wn : Int32) (We : Int32) (Wb : Int32) (Hv : Int32) (p1 : Int32) (post : Int32 → (Nat → Int32) → (Nat → Int32) → Int32 → Int32 → Int32 → Int32 → (Nat → Int32) → (Nat → Int32) → (Nat → Int32) → (Nat → Int32) → (Nat → Int32) → (Nat → Int32) → Int32 → Int32 → Int32 → Int32 → Int32 → Prop) (hw : wp_X4_house p1 Pd Pm Ps Pg Pj Br Rt Rl Rr Ra Wa Wk Wd Wn We Wb Hv post) : Met l yX4_house wsX4_house { frames := 3, cells := 0, slots := 0, locals := 65 } (va_Pc [.ref (ad 0), .int p1] (gq_pre D (tyH ck) (wdH ad ck Pd Pm Ps Pg Pj Bt Bi Bf Br Rt Rl Rr Ra Wt Wa Wk Wd Wn We Wb Hv) sz)) (va_Qi (fun (r : Int32) (u : (Nat → Int32) × (Nat → Int32) × Int32 × Int32 × Int32 × Int32 × (Nat → Int32) × (Nat → Int32) × (Nat → Int32) × (Nat → Int32) × (Nat → Int32) × (Nat → Int32) × Int32 × Int32 × Int32 × Int32 × Int32) => post r u.1 u.2.1 u.2.2.1 u.2.2.2.1 u.2.2.2.2.1 u.2.2.2.2.2.1 u.2.2.2.2.2.2.1 u.2.2.2.2.2.2.2.1 u.2.2.2.2.2.2.2.2.1 u.2.2.2.2.2.2.2.2.2.1 u.2.2.2.2.2.2.2.2.2.2.1 u.2.2.2.2.2.2.2.2.2.2.2.1 u.2.2.2.2.2.2.2.2.2.2.2.2.1 u.2.2.2.2.2.2.2.2.2.2.2.2.2.1 u.2.2.2.2.2.2.2.2.2.2.2.2.2.2.1 u.2.2.2.2.2.2.2.2.2.2.2.2.2.2.2.1 u.2.2.2.2.2.2.2.2.2.2.2.2.2.2.2.2) (gq_at D (va_A (wdH ad ck Pd Pm Ps Pg Pj Bt Bi Bf Br Rt Rl Rr Ra Wt Wa Wk Wd Wn We Wb Hv) sz) (fun (u : (Nat → Int32) × (Nat → Int32) × Int32 × Int32 × Int32 × Int32 × (Nat → Int32) × (Nat → Int32) × (Nat → Int32) × (Nat → Int32) × (Nat → Int32) × (Nat → Int32) × Int32 × Int32 × Int32 × Int32 × Int32) => (wdH ad ck u.1 u.2.1 u.2.2.1 u.2.2.2.1 u.2.2.2.2.1 Bt Bi Bf u.2.2.2.2.2.1 u.2.2.2.2.2.2.1 u.2.2.2.2.2.2.2.1 u.2.2.2.2.2.2.2.2.1 u.2.2.2.2.2.2.2.2.2.1 Wt u.2.2.2.2.2.2.2.2.2.2.1 u.2.2.2.2.2.2.2.2.2.2.2.1 u.2.2.2.2.2.2.2.2.2.2.2.2.1 u.2.2.2.2.2.2.2.2.2.2.2.2.2.1 u.2.2.2.2.2.2.2.2.2.2.2.2.2.2.1 u.2.2.2.2.2.2.2.2.2.2.2.2.2.2.2.1 u.2.2.2.2.2.2.2.2.2.2.2.2.2.2.2.2))) (va_A (wdH ad ck Pd Pm Ps Pg Pj Bt Bi Bf Br Rt Rl Rr Ra Wt Wa Wk Wd Wn We Wb Hv) sz)) 0 0 (va_A (wdH ad ck Pd Pm Ps Pg Pj Bt Bi Bf Br Rt Rl Rr Ra Wt Wa Wk Wd Wn We Wb Hv) sz) := by
  refine gq_metz (cc := cX4_house) (maxL := 2) (lv := [(0, .ref (ad 0)), (1, .int p1)]) (by decide) rfl (Nat.le_of_ble_eq_true rfl) rfl ?_
  intro p e s m below meth c A Q ls H locs hx hb hml hown hts hnw hA hK hP hD hS hl hz
  refine lv_iload_n hx hb dX4_house_0 rfl (lv_at hl 1 rfl) ?_
  refine lv_iconst (v := 2) hx hb dX4_house_1 (by decide) ?_
  refine lv_icmp_lt (tgt := 11) hx hb dX4_house_2 (by decide) (fun c1 => ?_) (fun c1 => ?_)
  · have hw := gq_t c1 hw
    refine lv_iconst (v := 0) hx hb dX4_house_11 (by decide) ?_
    exact hz 0 (Pd, Pm, Ps, Pg, Pj, Br, Rt, Rl, Rr, Ra, Wa, Wk, Wd, Wn, We, Wb, Hv) _ _ _ _ dX4_house_12 gq_zb0 hw hP hD hS
  · have hw := gq_f c1 hw
    refine lv_iload_n hx hb dX4_house_5 rfl (lv_at hl 1 rfl) ?_
    refine lv_bipush (v := 9) hx hb dX4_house_6 (by decide) ?_
    refine lv_icmp_le (tgt := 13) hx hb dX4_house_8 (by decide) (fun c2 => ?_) (fun c2 => ?_)
    · have hw := gq_t c2 hw
      refine lv_aload_n hx hb dX4_house_13 rfl (lv_at hl 0 rfl) ?_
      refine lv_iload_n hx hb dX4_house_14 rfl (lv_at hl 1 rfl) ?_
      refine gq_callv (wsN := fun u => (wdH ad ck u.1 u.2.1 u.2.2.1 u.2.2.2.1 u.2.2.2.2.1 Bt Bi Bf u.2.2.2.2.2.1 u.2.2.2.2.2.2.1 u.2.2.2.2.2.2.2.1 u.2.2.2.2.2.2.2.2.1 u.2.2.2.2.2.2.2.2.2.1 Wt u.2.2.2.2.2.2.2.2.2.2.1 u.2.2.2.2.2.2.2.2.2.2.2.1 u.2.2.2.2.2.2.2.2.2.2.2.2.1 u.2.2.2.2.2.2.2.2.2.2.2.2.2.1 u.2.2.2.2.2.2.2.2.2.2.2.2.2.2.1 u.2.2.2.2.2.2.2.2.2.2.2.2.2.2.2.1 u.2.2.2.2.2.2.2.2.2.2.2.2.2.2.2.2)) (va_runV (As := [.int p1]) (rest := []) ⟨hx, hb, hml, hown, hts⟩ (c_X4_beginAnew l D ad ck H.size Pd Pm Ps Pg Pj Bt Bi Bf Br Rt Rl Rr Ra Wt Wa Wk Wd Wn We Wb Hv p1 _ hw) (cwV 1 hts gX4_house_X4_beginAnew rfl rfl rfl (by decide +kernel) ⟨Nat.le_of_ble_eq_true rfl, Nat.le_of_ble_eq_true rfl⟩) (gq_preV hK [0, 1, 2, 3, 4, 5, 6, 7, 8, 9, 10] rfl hP hD [0, 1, 2, 3, 4, 5, 6, 7, 8, 9, 10, 11, 12, 13, 14, 15] rfl rfl hnw 4 0 rfl rfl) rfl rfl hl.1 rfl (lv_room (Nat.le_of_ble_eq_true rfl)) dX4_house_15 ⟨Nat.zero_le _, Nat.zero_le _⟩) hP hD hS hA [0, 1, 2, 3, 4, 5, 6, 7, 8, 9, 10, 11, 12, 13, 14, 15] [] rfl rfl rfl (by decide) [0, 1, 2, 3, 4, 5, 6, 7, 8, 9, 10, 11, 12, 13, 14, 15] rfl (fun _ => rfl) (fun u_ H locs hw hP hD hS => ?_)
      obtain ⟨Pd_3, Pm_4, Ps_5, Pg_6, Pj_7, Br_8, Rt_9, Rl_10, Rr_11, Ra_12, Wa_13, Wk_14, Wd_15, Wn_16, We_17, Wb_18, Hv_19⟩ := u_
      have hP : va_P D vwCl (wdH ad ck Pd_3 Pm_4 Ps_5 Pg_6 Pj_7 Bt Bi Bf Br_8 Rt_9 Rl_10 Rr_11 Ra_12 Wt Wa_13 Wk_14 Wd_15 Wn_16 We_17 Wb_18 Hv_19) H := hP
      have hD : va_D A (wdH ad ck Pd_3 Pm_4 Ps_5 Pg_6 Pj_7 Bt Bi Bf Br_8 Rt_9 Rl_10 Rr_11 Ra_12 Wt Wa_13 Wk_14 Wd_15 Wn_16 We_17 Wb_18 Hv_19) := hD
      refine lv_iconst (v := 1) hx hb dX4_house_18 (by decide) ?_
      exact hz 1 (Pd_3, Pm_4, Ps_5, Pg_6, Pj_7, Br_8, Rt_9, Rl_10, Rr_11, Ra_12, Wa_13, Wk_14, Wd_15, Wn_16, We_17, Wb_18, Hv_19) _ _ _ _ dX4_house_19 gq_zb1 hw hP hD hS
    · have hw := gq_f c2 hw
      refine lv_iconst (v := 0) hx hb dX4_house_11 (by decide) ?_
      exact hz 0 (Pd, Pm, Ps, Pg, Pj, Br, Rt, Rl, Rr, Ra, Wa, Wk, Wd, Wn, We, Wb, Hv) _ _ _ _ dX4_house_12 gq_zb0 hw hP hD hS

def wp_X4_door (p1 : Int32) (p2 : Int32) (p3 : Int32) (Pd : Nat → Int32) (Ps : Int32) (Br : Int32) (post : Int32 → (Nat → Int32) → Int32 → Prop) : Prop :=
  wp_X0_hasPlace p1 Ps (fun (r1 : Int32) => (if r1 = 0 then post 0 Pd Br else wp_X0_hasPlace p2 Ps (fun (r3 : Int32) => (if r3 = 0 then post 0 Pd Br else (if p1 = p2 then post 0 Pd Br else wp_X0_hasDoor p1 p2 Pd Ps (fun (r6 : Int32) => (if r6 = p3 then post 0 Pd Br else wp_X0_turnDoor p1 p2 Pd Ps (fun (Pd_8 : Nat → Int32) => wp_X3_forget Br (fun (Br_9 : Int32) => post 1 Pd_8 Br_9)))))))))

theorem iX4_door_X4 : ∀ w ∈ wsX40, w ∈ wsX4_door := by decide +kernel
set_option maxHeartbeats 4000000 in
set_option maxRecDepth 100000 in
theorem c_X4_door (l : Launch) (D : va_G) (ad : Nat → Nat) (ck : Nat → ClassId) (sz : Nat) (Pd : Nat → Int32) (Pm : Nat → Int32) (Ps : Int32) (Pg : Int32) (Pj : Int32) (Bt : Nat → Int32) (Bi : Nat → Int32) (Bf : Int32) (Br : Int32) (Rt : Nat → Int32) (Rl : Nat → Int32) (Rr : Nat → Int32) (Ra : Nat → Int32) (Wt : Nat → Int32) (Wa : Nat → Int32) (Wk : Nat → Int32) (Wd : Int32) (Wn : Int32) (We : Int32) (Wb : Int32) (Hv : Int32) (p1 : Int32) (p2 : Int32) (p3 : Int32) (post : Int32 → (Nat → Int32) → Int32 → Prop) (hw : wp_X4_door p1 p2 p3 Pd Ps Br post) : Met l yX4_door wsX4_door { frames := 3, cells := 0, slots := 0, locals := 64 } (va_Pc [.ref (ad 0), .int p1, .int p2, .int p3] (gq_pre D (tyH ck) (wdH ad ck Pd Pm Ps Pg Pj Bt Bi Bf Br Rt Rl Rr Ra Wt Wa Wk Wd Wn We Wb Hv) sz)) (va_Qi (fun (r : Int32) (u : (Nat → Int32) × Int32) => post r u.1 u.2) (gq_at D (va_A (wdH ad ck Pd Pm Ps Pg Pj Bt Bi Bf Br Rt Rl Rr Ra Wt Wa Wk Wd Wn We Wb Hv) sz) (fun (u : (Nat → Int32) × Int32) => (wdH ad ck u.1 Pm Ps Pg Pj Bt Bi Bf u.2 Rt Rl Rr Ra Wt Wa Wk Wd Wn We Wb Hv))) (va_A (wdH ad ck Pd Pm Ps Pg Pj Bt Bi Bf Br Rt Rl Rr Ra Wt Wa Wk Wd Wn We Wb Hv) sz)) 0 0 (va_A (wdH ad ck Pd Pm Ps Pg Pj Bt Bi Bf Br Rt Rl Rr Ra Wt Wa Wk Wd Wn We Wb Hv) sz) := by
  refine gq_metz (cc := cX4_door) (maxL := 4) (lv := [(0, .ref (ad 0)), (1, .int p1), (2, .int p2), (3, .int p3)]) (by decide) rfl (Nat.le_of_ble_eq_true rfl) rfl ?_
  intro p e s m below meth c A Q ls H locs hx hb hml hown hts hnw hA hK hP hD hS hl hz
  refine lv_aload_n hx hb dX4_door_0 rfl (lv_at hl 0 rfl) ?_
  refine va_get (D := D) (ci := 4) (v := .ref (ad 1)) (C := RX4) (T := TX4) (N := 5) hx hb hts iX4_door_X4 hown hK hP 0 rfl rfl 0 (by decide) (hts (.fieldLink RX4 12 "DecoyHouse" "plan" "LDecoyHouse$Plan;") (by decide +kernel)) (fun _ h9 => h9) rfl dX4_door_1 ?_
  refine lv_iload_n hx hb dX4_door_4 rfl (lv_at hl 1 rfl) ?_
  refine gq_calli (wsN := fun _ => (wdH ad ck Pd Pm Ps Pg Pj Bt Bi Bf Br Rt Rl Rr Ra Wt Wa Wk Wd Wn We Wb Hv)) (va_runV (As := [.int p1]) (rest := []) ⟨hx, hb, hml, hown, hts⟩ (c_X0_hasPlace l D ad ck H.size Pd Pm Ps Pg Pj p1 _ hw) (cwV 1 hts gX4_door_X0_hasPlace rfl rfl rfl (by decide +kernel) ⟨Nat.le_of_ble_eq_true rfl, Nat.le_of_ble_eq_true rfl⟩) (gq_preV hK [0, 1] rfl hP hD [1, 2, 3] rfl rfl hnw 0 0 rfl rfl) rfl rfl hl.1 rfl (lv_room (Nat.le_of_ble_eq_true rfl)) dX4_door_5 ⟨Nat.zero_le _, Nat.zero_le _⟩) hP hD hS hA [1, 2, 3] [0, 4, 5, 6, 7, 8, 9, 10, 11, 12, 13, 14, 15] rfl rfl rfl (by decide) [0, 13, 14, 15, 1, 2, 3, 4, 5, 6, 7, 8, 9, 10, 11, 12] rfl (fun _ => rfl) (fun r1 _ H locs hw hP hD hS => ?_)
  refine lv_if_eq (tgt := 40) hx hb dX4_door_8 (by decide) (fun c2 => ?_) (fun c2 => ?_)
  · have hw := gq_t c2 hw
    refine lv_iconst (v := 0) hx hb dX4_door_40 (by decide) ?_
    exact hz 0 (Pd, Br) _ _ _ _ dX4_door_41 gq_zb0 hw hP hD hS
  · have hw := gq_f c2 hw
    refine lv_aload_n hx hb dX4_door_11 rfl (lv_at hl 0 rfl) ?_
    refine va_get (D := D) (ci := 4) (v := .ref (ad 1)) (C := RX4) (T := TX4) (N := 5) hx hb hts iX4_door_X4 hown hK hP 0 rfl rfl 0 (by decide) (hts (.fieldLink RX4 12 "DecoyHouse" "plan" "LDecoyHouse$Plan;") (by decide +kernel)) (fun _ h9 => h9) rfl dX4_door_12 ?_
    refine lv_iload_n hx hb dX4_door_15 rfl (lv_at hl 2 rfl) ?_
    refine gq_calli (wsN := fun _ => (wdH ad ck Pd Pm Ps Pg Pj Bt Bi Bf Br Rt Rl Rr Ra Wt Wa Wk Wd Wn We Wb Hv)) (va_runV (As := [.int p2]) (rest := []) ⟨hx, hb, hml, hown, hts⟩ (c_X0_hasPlace l D ad ck H.size Pd Pm Ps Pg Pj p2 _ hw) (cwV 1 hts gX4_door_X0_hasPlace rfl rfl rfl (by decide +kernel) ⟨Nat.le_of_ble_eq_true rfl, Nat.le_of_ble_eq_true rfl⟩) (gq_preV hK [0, 1] rfl hP hD [1, 2, 3] rfl rfl hnw 0 0 rfl rfl) rfl rfl hl.1 rfl (lv_room (Nat.le_of_ble_eq_true rfl)) dX4_door_16 ⟨Nat.zero_le _, Nat.zero_le _⟩) hP hD hS hA [1, 2, 3] [0, 4, 5, 6, 7, 8, 9, 10, 11, 12, 13, 14, 15] rfl rfl rfl (by decide) [0, 13, 14, 15, 1, 2, 3, 4, 5, 6, 7, 8, 9, 10, 11, 12] rfl (fun _ => rfl) (fun r3 _ H locs hw hP hD hS => ?_)
    refine lv_if_eq (tgt := 40) hx hb dX4_door_19 (by decide) (fun c4 => ?_) (fun c4 => ?_)
    · have hw := gq_t c4 hw
      refine lv_iconst (v := 0) hx hb dX4_door_40 (by decide) ?_
      exact hz 0 (Pd, Br) _ _ _ _ dX4_door_41 gq_zb0 hw hP hD hS
    · have hw := gq_f c4 hw
      refine lv_iload_n hx hb dX4_door_22 rfl (lv_at hl 1 rfl) ?_
      refine lv_iload_n hx hb dX4_door_23 rfl (lv_at hl 2 rfl) ?_
      refine lv_icmp_eq (tgt := 40) hx hb dX4_door_24 (by decide) (fun c5 => ?_) (fun c5 => ?_)
      · have hw := gq_t c5 hw
        refine lv_iconst (v := 0) hx hb dX4_door_40 (by decide) ?_
        exact hz 0 (Pd, Br) _ _ _ _ dX4_door_41 gq_zb0 hw hP hD hS
      · have hw := gq_f c5 hw
        refine lv_aload_n hx hb dX4_door_27 rfl (lv_at hl 0 rfl) ?_
        refine va_get (D := D) (ci := 4) (v := .ref (ad 1)) (C := RX4) (T := TX4) (N := 5) hx hb hts iX4_door_X4 hown hK hP 0 rfl rfl 0 (by decide) (hts (.fieldLink RX4 12 "DecoyHouse" "plan" "LDecoyHouse$Plan;") (by decide +kernel)) (fun _ h9 => h9) rfl dX4_door_28 ?_
        refine lv_iload_n hx hb dX4_door_31 rfl (lv_at hl 1 rfl) ?_
        refine lv_iload_n hx hb dX4_door_32 rfl (lv_at hl 2 rfl) ?_
        refine gq_calli (wsN := fun _ => (wdH ad ck Pd Pm Ps Pg Pj Bt Bi Bf Br Rt Rl Rr Ra Wt Wa Wk Wd Wn We Wb Hv)) (va_runV (As := [.int p1, .int p2]) (rest := []) ⟨hx, hb, hml, hown, hts⟩ (c_X0_hasDoor l D ad ck H.size Pd Pm Ps Pg Pj p1 p2 _ hw) (cwV 2 hts gX4_door_X0_hasDoor rfl rfl rfl (by decide +kernel) ⟨Nat.le_of_ble_eq_true rfl, Nat.le_of_ble_eq_true rfl⟩) (gq_preV hK [0, 1] rfl hP hD [1, 2, 3] rfl rfl hnw 0 0 rfl rfl) rfl rfl hl.1 rfl (lv_room (Nat.le_of_ble_eq_true rfl)) dX4_door_33 ⟨Nat.zero_le _, Nat.zero_le _⟩) hP hD hS hA [1, 2, 3] [0, 4, 5, 6, 7, 8, 9, 10, 11, 12, 13, 14, 15] rfl rfl rfl (by decide) [0, 13, 14, 15, 1, 2, 3, 4, 5, 6, 7, 8, 9, 10, 11, 12] rfl (fun _ => rfl) (fun r6 _ H locs hw hP hD hS => ?_)
        refine lv_iload_n hx hb dX4_door_36 rfl (lv_at hl 3 rfl) ?_
        refine lv_icmp_ne (tgt := 42) hx hb dX4_door_37 (by decide) (fun c7 => ?_) (fun c7 => ?_)
        · have hw := gq_f c7 hw
          refine lv_aload_n hx hb dX4_door_42 rfl (lv_at hl 0 rfl) ?_
          refine va_get (D := D) (ci := 4) (v := .ref (ad 1)) (C := RX4) (T := TX4) (N := 5) hx hb hts iX4_door_X4 hown hK hP 0 rfl rfl 0 (by decide) (hts (.fieldLink RX4 12 "DecoyHouse" "plan" "LDecoyHouse$Plan;") (by decide +kernel)) (fun _ h9 => h9) rfl dX4_door_43 ?_
          refine lv_iload_n hx hb dX4_door_46 rfl (lv_at hl 1 rfl) ?_
          refine lv_iload_n hx hb dX4_door_47 rfl (lv_at hl 2 rfl) ?_
          refine gq_callv (wsN := fun u => (wdH ad ck u Pm Ps Pg Pj Bt Bi Bf Br Rt Rl Rr Ra Wt Wa Wk Wd Wn We Wb Hv)) (va_runV (As := [.int p1, .int p2]) (rest := []) ⟨hx, hb, hml, hown, hts⟩ (c_X0_turnDoor l D ad ck H.size Pd Pm Ps Pg Pj p1 p2 _ hw) (cwV 2 hts gX4_door_X0_turnDoor rfl rfl rfl (by decide +kernel) ⟨Nat.le_of_ble_eq_true rfl, Nat.le_of_ble_eq_true rfl⟩) (gq_preV hK [0, 1] rfl hP hD [1, 2, 3] rfl rfl hnw 0 0 rfl rfl) rfl rfl hl.1 rfl (lv_room (Nat.le_of_ble_eq_true rfl)) dX4_door_48 ⟨Nat.zero_le _, Nat.zero_le _⟩) hP hD hS hA [1, 2, 3] [0, 4, 5, 6, 7, 8, 9, 10, 11, 12, 13, 14, 15] rfl rfl rfl (by decide) [0, 13, 14, 15, 1, 2, 3, 4, 5, 6, 7, 8, 9, 10, 11, 12] rfl (fun _ => rfl) (fun Pd_8 H locs hw hP hD hS => ?_)
          have hP : va_P D vwCl (wdH ad ck Pd_8 Pm Ps Pg Pj Bt Bi Bf Br Rt Rl Rr Ra Wt Wa Wk Wd Wn We Wb Hv) H := hP
          have hD : va_D A (wdH ad ck Pd_8 Pm Ps Pg Pj Bt Bi Bf Br Rt Rl Rr Ra Wt Wa Wk Wd Wn We Wb Hv) := hD
          refine lv_aload_n hx hb dX4_door_51 rfl (lv_at hl 0 rfl) ?_
          refine va_get (D := D) (ci := 4) (v := .ref (ad 4)) (C := RX4) (T := TX4) (N := 5) hx hb hts iX4_door_X4 hown hK hP 0 rfl rfl 1 (by decide) (hts (.fieldLink RX4 19 "DecoyHouse" "book" "LDecoyHouse$WayBook;") (by decide +kernel)) (fun _ h9 => h9) rfl dX4_door_52 ?_
          refine gq_callv (wsN := fun u => (wdH ad ck Pd_8 Pm Ps Pg Pj Bt Bi Bf u Rt Rl Rr Ra Wt Wa Wk Wd Wn We Wb Hv)) (va_runV (As := []) (rest := []) ⟨hx, hb, hml, hown, hts⟩ (c_X3_forget l D ad ck H.size Bt Bi Bf Br  _ hw) (cwV 0 hts gX4_door_X3_forget rfl rfl rfl (by decide +kernel) ⟨Nat.le_of_ble_eq_true rfl, Nat.le_of_ble_eq_true rfl⟩) (gq_preV hK [2, 3] rfl hP hD [4, 5, 6] rfl rfl hnw 3 0 rfl rfl) rfl rfl hl.1 rfl (lv_room (Nat.le_of_ble_eq_true rfl)) dX4_door_55 ⟨Nat.zero_le _, Nat.zero_le _⟩) hP hD hS hA [4, 5, 6] [0, 1, 2, 3, 7, 8, 9, 10, 11, 12, 13, 14, 15] rfl rfl rfl (by decide) [0, 1, 2, 3, 13, 14, 15, 4, 5, 6, 7, 8, 9, 10, 11, 12] rfl (fun _ => rfl) (fun Br_9 H locs hw hP hD hS => ?_)
          have hP : va_P D vwCl (wdH ad ck Pd_8 Pm Ps Pg Pj Bt Bi Bf Br_9 Rt Rl Rr Ra Wt Wa Wk Wd Wn We Wb Hv) H := hP
          have hD : va_D A (wdH ad ck Pd_8 Pm Ps Pg Pj Bt Bi Bf Br_9 Rt Rl Rr Ra Wt Wa Wk Wd Wn We Wb Hv) := hD
          refine lv_iconst (v := 1) hx hb dX4_door_58 (by decide) ?_
          exact hz 1 (Pd_8, Br_9) _ _ _ _ dX4_door_59 gq_zb1 hw hP hD hS
        · have hw := gq_t c7 hw
          refine lv_iconst (v := 0) hx hb dX4_door_40 (by decide) ?_
          exact hz 0 (Pd, Br) _ _ _ _ dX4_door_41 gq_zb0 hw hP hD hS

def wp_X4_is (p1 : Int32) (p2 : Int32) (Ps : Int32) (Pg : Int32) (Pj : Int32) (Br : Int32) (Wd : Int32) (post : Int32 → Int32 → Int32 → Int32 → Prop) : Prop :=
  wp_X0_hasPlace p1 Ps (fun (r1 : Int32) => (if r1 = 0 then post 0 Pg Pj Br else (if p2 < 0 then post 0 Pg Pj Br else (if 2 < p2 then post 0 Pg Pj Br else wp_X2_decoySet Wd (fun (r5 : Int32) => wp_X4_has r5 p1 (fun (r6 : Int32) => (if r6 = 0 then wp_X0_setKind p1 p2 Pg Pj (fun (Pg_8 : Int32) (Pj_9 : Int32) => wp_X3_forget Br (fun (Br_10 : Int32) => post 1 Pg_8 Pj_9 Br_10)) else post 0 Pg Pj Br)))))))

theorem iX4_is_X4 : ∀ w ∈ wsX40, w ∈ wsX4_is := by decide +kernel
set_option maxHeartbeats 4000000 in
set_option maxRecDepth 100000 in
theorem c_X4_is (l : Launch) (D : va_G) (ad : Nat → Nat) (ck : Nat → ClassId) (sz : Nat) (Pd : Nat → Int32) (Pm : Nat → Int32) (Ps : Int32) (Pg : Int32) (Pj : Int32) (Bt : Nat → Int32) (Bi : Nat → Int32) (Bf : Int32) (Br : Int32) (Rt : Nat → Int32) (Rl : Nat → Int32) (Rr : Nat → Int32) (Ra : Nat → Int32) (Wt : Nat → Int32) (Wa : Nat → Int32) (Wk : Nat → Int32) (Wd : Int32) (Wn : Int32) (We : Int32) (Wb : Int32) (Hv : Int32) (p1 : Int32) (p2 : Int32) (post : Int32 → Int32 → Int32 → Int32 → Prop) (hw : wp_X4_is p1 p2 Ps Pg Pj Br Wd post) : Met l yX4_is wsX4_is { frames := 2, cells := 0, slots := 0, locals := 43 } (va_Pc [.ref (ad 0), .int p1, .int p2] (gq_pre D (tyH ck) (wdH ad ck Pd Pm Ps Pg Pj Bt Bi Bf Br Rt Rl Rr Ra Wt Wa Wk Wd Wn We Wb Hv) sz)) (va_Qi (fun (r : Int32) (u : Int32 × Int32 × Int32) => post r u.1 u.2.1 u.2.2) (gq_at D (va_A (wdH ad ck Pd Pm Ps Pg Pj Bt Bi Bf Br Rt Rl Rr Ra Wt Wa Wk Wd Wn We Wb Hv) sz) (fun (u : Int32 × Int32 × Int32) => (wdH ad ck Pd Pm Ps u.1 u.2.1 Bt Bi Bf u.2.2 Rt Rl Rr Ra Wt Wa Wk Wd Wn We Wb Hv))) (va_A (wdH ad ck Pd Pm Ps Pg Pj Bt Bi Bf Br Rt Rl Rr Ra Wt Wa Wk Wd Wn We Wb Hv) sz)) 0 0 (va_A (wdH ad ck Pd Pm Ps Pg Pj Bt Bi Bf Br Rt Rl Rr Ra Wt Wa Wk Wd Wn We Wb Hv) sz) := by
  refine gq_metz (cc := cX4_is) (maxL := 3) (lv := [(0, .ref (ad 0)), (1, .int p1), (2, .int p2)]) (by decide) rfl (Nat.le_of_ble_eq_true rfl) rfl ?_
  intro p e s m below meth c A Q ls H locs hx hb hml hown hts hnw hA hK hP hD hS hl hz
  refine lv_aload_n hx hb dX4_is_0 rfl (lv_at hl 0 rfl) ?_
  refine va_get (D := D) (ci := 4) (v := .ref (ad 1)) (C := RX4) (T := TX4) (N := 5) hx hb hts iX4_is_X4 hown hK hP 0 rfl rfl 0 (by decide) (hts (.fieldLink RX4 12 "DecoyHouse" "plan" "LDecoyHouse$Plan;") (by decide +kernel)) (fun _ h9 => h9) rfl dX4_is_1 ?_
  refine lv_iload_n hx hb dX4_is_4 rfl (lv_at hl 1 rfl) ?_
  refine gq_calli (wsN := fun _ => (wdH ad ck Pd Pm Ps Pg Pj Bt Bi Bf Br Rt Rl Rr Ra Wt Wa Wk Wd Wn We Wb Hv)) (va_runV (As := [.int p1]) (rest := []) ⟨hx, hb, hml, hown, hts⟩ (c_X0_hasPlace l D ad ck H.size Pd Pm Ps Pg Pj p1 _ hw) (cwV 1 hts gX4_is_X0_hasPlace rfl rfl rfl (by decide +kernel) ⟨Nat.le_of_ble_eq_true rfl, Nat.le_of_ble_eq_true rfl⟩) (gq_preV hK [0, 1] rfl hP hD [1, 2, 3] rfl rfl hnw 0 0 rfl rfl) rfl rfl hl.1 rfl (lv_room (Nat.le_of_ble_eq_true rfl)) dX4_is_5 ⟨Nat.zero_le _, Nat.zero_le _⟩) hP hD hS hA [1, 2, 3] [0, 4, 5, 6, 7, 8, 9, 10, 11, 12, 13, 14, 15] rfl rfl rfl (by decide) [0, 13, 14, 15, 1, 2, 3, 4, 5, 6, 7, 8, 9, 10, 11, 12] rfl (fun _ => rfl) (fun r1 _ H locs hw hP hD hS => ?_)
  refine lv_if_eq (tgt := 34) hx hb dX4_is_8 (by decide) (fun c2 => ?_) (fun c2 => ?_)
  · have hw := gq_t c2 hw
    refine lv_iconst (v := 0) hx hb dX4_is_34 (by decide) ?_
    exact hz 0 (Pg, Pj, Br) _ _ _ _ dX4_is_35 gq_zb0 hw hP hD hS
  · have hw := gq_f c2 hw
    refine lv_iload_n hx hb dX4_is_11 rfl (lv_at hl 2 rfl) ?_
    refine lv_if_lt (tgt := 34) hx hb dX4_is_12 (by decide) (fun c3 => ?_) (fun c3 => ?_)
    · have hw := gq_t c3 hw
      refine lv_iconst (v := 0) hx hb dX4_is_34 (by decide) ?_
      exact hz 0 (Pg, Pj, Br) _ _ _ _ dX4_is_35 gq_zb0 hw hP hD hS
    · have hw := gq_f c3 hw
      refine lv_iload_n hx hb dX4_is_15 rfl (lv_at hl 2 rfl) ?_
      refine lv_iconst (v := 2) hx hb dX4_is_16 (by decide) ?_
      refine lv_icmp_gt (tgt := 34) hx hb dX4_is_17 (by decide) (fun c4 => ?_) (fun c4 => ?_)
      · have hw := gq_t c4 hw
        refine lv_iconst (v := 0) hx hb dX4_is_34 (by decide) ?_
        exact hz 0 (Pg, Pj, Br) _ _ _ _ dX4_is_35 gq_zb0 hw hP hD hS
      · have hw := gq_f c4 hw
        refine lv_aload_n hx hb dX4_is_20 rfl (lv_at hl 0 rfl) ?_
        refine va_get (D := D) (ci := 4) (v := .ref (ad 12)) (C := RX4) (T := TX4) (N := 5) hx hb hts iX4_is_X4 hown hK hP 0 rfl rfl 3 (by decide) (hts (.fieldLink RX4 33 "DecoyHouse" "watch" "LDecoyHouse$Watch;") (by decide +kernel)) (fun _ h9 => h9) rfl dX4_is_21 ?_
        refine gq_calli (wsN := fun _ => (wdH ad ck Pd Pm Ps Pg Pj Bt Bi Bf Br Rt Rl Rr Ra Wt Wa Wk Wd Wn We Wb Hv)) (va_runV (As := []) (rest := []) ⟨hx, hb, hml, hown, hts⟩ (c_X2_decoySet l D ad ck H.size Wt Wa Wk Wd Wn We Wb  _ hw) (cwV 0 hts gX4_is_X2_decoySet rfl rfl rfl (by decide +kernel) ⟨Nat.le_of_ble_eq_true rfl, Nat.le_of_ble_eq_true rfl⟩) (gq_preV hK [8, 9, 10] rfl hP hD [12, 13, 14, 15] rfl rfl hnw 2 0 rfl rfl) rfl rfl hl.1 rfl (lv_room (Nat.le_of_ble_eq_true rfl)) dX4_is_24 ⟨Nat.zero_le _, Nat.zero_le _⟩) hP hD hS hA [12, 13, 14, 15] [0, 1, 2, 3, 4, 5, 6, 7, 8, 9, 10, 11] rfl rfl rfl (by decide) [0, 1, 2, 3, 4, 5, 6, 7, 8, 9, 10, 11, 12, 13, 14, 15] rfl (fun _ => rfl) (fun r5 _ H locs hw hP hD hS => ?_)
        refine lv_iload_n hx hb dX4_is_27 rfl (lv_at hl 1 rfl) ?_
        refine gq_calli (wsN := fun _ => (wdH ad ck Pd Pm Ps Pg Pj Bt Bi Bf Br Rt Rl Rr Ra Wt Wa Wk Wd Wn We Wb Hv)) (va_runS (As := [.int r5, .int p1]) (rest := []) ⟨hx, hb, hml, hown, hts⟩ (c_X4_has l D H.size r5 p1 _ hw) (va_cwS 2 hts gX4_is_X4_has rfl rfl rfl (by decide +kernel) ⟨Nat.le_of_ble_eq_true rfl, Nat.le_of_ble_eq_true rfl⟩) (gq_preS hK [] rfl hP hD [] rfl rfl hnw) rfl rfl hl.1 rfl (lv_room (Nat.le_of_ble_eq_true rfl)) dX4_is_28 ⟨Nat.zero_le _, Nat.zero_le _⟩) hP hD hS hA [] [0, 1, 2, 3, 4, 5, 6, 7, 8, 9, 10, 11, 12, 13, 14, 15] rfl rfl rfl (by decide) [0, 1, 2, 3, 4, 5, 6, 7, 8, 9, 10, 11, 12, 13, 14, 15] rfl (fun _ => rfl) (fun r6 _ H locs hw hP hD hS => ?_)
        refine lv_if_eq (tgt := 36) hx hb dX4_is_31 (by decide) (fun c7 => ?_) (fun c7 => ?_)
        · have hw := gq_t c7 hw
          refine lv_aload_n hx hb dX4_is_36 rfl (lv_at hl 0 rfl) ?_
          refine va_get (D := D) (ci := 4) (v := .ref (ad 1)) (C := RX4) (T := TX4) (N := 5) hx hb hts iX4_is_X4 hown hK hP 0 rfl rfl 0 (by decide) (hts (.fieldLink RX4 12 "DecoyHouse" "plan" "LDecoyHouse$Plan;") (by decide +kernel)) (fun _ h9 => h9) rfl dX4_is_37 ?_
          refine lv_iload_n hx hb dX4_is_40 rfl (lv_at hl 1 rfl) ?_
          refine lv_iload_n hx hb dX4_is_41 rfl (lv_at hl 2 rfl) ?_
          refine gq_callv (wsN := fun u => (wdH ad ck Pd Pm Ps u.1 u.2 Bt Bi Bf Br Rt Rl Rr Ra Wt Wa Wk Wd Wn We Wb Hv)) (va_runV (As := [.int p1, .int p2]) (rest := []) ⟨hx, hb, hml, hown, hts⟩ (c_X0_setKind l D ad ck H.size Pd Pm Ps Pg Pj p1 p2 _ hw) (cwV 2 hts gX4_is_X0_setKind rfl rfl rfl (by decide +kernel) ⟨Nat.le_of_ble_eq_true rfl, Nat.le_of_ble_eq_true rfl⟩) (gq_preV hK [0, 1] rfl hP hD [1, 2, 3] rfl rfl hnw 0 0 rfl rfl) rfl rfl hl.1 rfl (lv_room (Nat.le_of_ble_eq_true rfl)) dX4_is_42 ⟨Nat.zero_le _, Nat.zero_le _⟩) hP hD hS hA [1, 2, 3] [0, 4, 5, 6, 7, 8, 9, 10, 11, 12, 13, 14, 15] rfl rfl rfl (by decide) [0, 13, 14, 15, 1, 2, 3, 4, 5, 6, 7, 8, 9, 10, 11, 12] rfl (fun _ => rfl) (fun u_ H locs hw hP hD hS => ?_)
          obtain ⟨Pg_8, Pj_9⟩ := u_
          have hP : va_P D vwCl (wdH ad ck Pd Pm Ps Pg_8 Pj_9 Bt Bi Bf Br Rt Rl Rr Ra Wt Wa Wk Wd Wn We Wb Hv) H := hP
          have hD : va_D A (wdH ad ck Pd Pm Ps Pg_8 Pj_9 Bt Bi Bf Br Rt Rl Rr Ra Wt Wa Wk Wd Wn We Wb Hv) := hD
          refine lv_aload_n hx hb dX4_is_45 rfl (lv_at hl 0 rfl) ?_
          refine va_get (D := D) (ci := 4) (v := .ref (ad 4)) (C := RX4) (T := TX4) (N := 5) hx hb hts iX4_is_X4 hown hK hP 0 rfl rfl 1 (by decide) (hts (.fieldLink RX4 19 "DecoyHouse" "book" "LDecoyHouse$WayBook;") (by decide +kernel)) (fun _ h9 => h9) rfl dX4_is_46 ?_
          refine gq_callv (wsN := fun u => (wdH ad ck Pd Pm Ps Pg_8 Pj_9 Bt Bi Bf u Rt Rl Rr Ra Wt Wa Wk Wd Wn We Wb Hv)) (va_runV (As := []) (rest := []) ⟨hx, hb, hml, hown, hts⟩ (c_X3_forget l D ad ck H.size Bt Bi Bf Br  _ hw) (cwV 0 hts gX4_is_X3_forget rfl rfl rfl (by decide +kernel) ⟨Nat.le_of_ble_eq_true rfl, Nat.le_of_ble_eq_true rfl⟩) (gq_preV hK [2, 3] rfl hP hD [4, 5, 6] rfl rfl hnw 3 0 rfl rfl) rfl rfl hl.1 rfl (lv_room (Nat.le_of_ble_eq_true rfl)) dX4_is_49 ⟨Nat.zero_le _, Nat.zero_le _⟩) hP hD hS hA [4, 5, 6] [0, 1, 2, 3, 7, 8, 9, 10, 11, 12, 13, 14, 15] rfl rfl rfl (by decide) [0, 1, 2, 3, 13, 14, 15, 4, 5, 6, 7, 8, 9, 10, 11, 12] rfl (fun _ => rfl) (fun Br_10 H locs hw hP hD hS => ?_)
          have hP : va_P D vwCl (wdH ad ck Pd Pm Ps Pg_8 Pj_9 Bt Bi Bf Br_10 Rt Rl Rr Ra Wt Wa Wk Wd Wn We Wb Hv) H := hP
          have hD : va_D A (wdH ad ck Pd Pm Ps Pg_8 Pj_9 Bt Bi Bf Br_10 Rt Rl Rr Ra Wt Wa Wk Wd Wn We Wb Hv) := hD
          refine lv_iconst (v := 1) hx hb dX4_is_52 (by decide) ?_
          exact hz 1 (Pg_8, Pj_9, Br_10) _ _ _ _ dX4_is_53 gq_zb1 hw hP hD hS
        · have hw := gq_f c7 hw
          refine lv_iconst (v := 0) hx hb dX4_is_34 (by decide) ?_
          exact hz 0 (Pg, Pj, Br) _ _ _ _ dX4_is_35 gq_zb0 hw hP hD hS

def wp_X4_looks (p1 : Int32) (p2 : Int32) (Pm : Nat → Int32) (Ps : Int32) (post : Int32 → (Nat → Int32) → Prop) : Prop :=
  wp_X0_hasPlace p1 Ps (fun (r1 : Int32) => (if r1 = 0 then post 0 Pm else wp_X4_areMarks p2 (fun (r3 : Int32) => (if r3 = 0 then post 0 Pm else wp_X0_setMarks p1 p2 Pm Ps (fun (Pm_5 : Nat → Int32) => post 1 Pm_5)))))

theorem iX4_looks_X4 : ∀ w ∈ wsX40, w ∈ wsX4_looks := by decide +kernel
set_option maxHeartbeats 4000000 in
set_option maxRecDepth 100000 in
theorem c_X4_looks (l : Launch) (D : va_G) (ad : Nat → Nat) (ck : Nat → ClassId) (sz : Nat) (Pd : Nat → Int32) (Pm : Nat → Int32) (Ps : Int32) (Pg : Int32) (Pj : Int32) (Bt : Nat → Int32) (Bi : Nat → Int32) (Bf : Int32) (Br : Int32) (Rt : Nat → Int32) (Rl : Nat → Int32) (Rr : Nat → Int32) (Ra : Nat → Int32) (Wt : Nat → Int32) (Wa : Nat → Int32) (Wk : Nat → Int32) (Wd : Int32) (Wn : Int32) (We : Int32) (Wb : Int32) (Hv : Int32) (p1 : Int32) (p2 : Int32) (post : Int32 → (Nat → Int32) → Prop) (hw : wp_X4_looks p1 p2 Pm Ps post) : Met l yX4_looks wsX4_looks { frames := 2, cells := 0, slots := 0, locals := 43 } (va_Pc [.ref (ad 0), .int p1, .int p2] (gq_pre D (tyH ck) (wdH ad ck Pd Pm Ps Pg Pj Bt Bi Bf Br Rt Rl Rr Ra Wt Wa Wk Wd Wn We Wb Hv) sz)) (va_Qi (fun (r : Int32) (u : (Nat → Int32)) => post r u) (gq_at D (va_A (wdH ad ck Pd Pm Ps Pg Pj Bt Bi Bf Br Rt Rl Rr Ra Wt Wa Wk Wd Wn We Wb Hv) sz) (fun (u : (Nat → Int32)) => (wdH ad ck Pd u Ps Pg Pj Bt Bi Bf Br Rt Rl Rr Ra Wt Wa Wk Wd Wn We Wb Hv))) (va_A (wdH ad ck Pd Pm Ps Pg Pj Bt Bi Bf Br Rt Rl Rr Ra Wt Wa Wk Wd Wn We Wb Hv) sz)) 0 0 (va_A (wdH ad ck Pd Pm Ps Pg Pj Bt Bi Bf Br Rt Rl Rr Ra Wt Wa Wk Wd Wn We Wb Hv) sz) := by
  refine gq_metz (cc := cX4_looks) (maxL := 3) (lv := [(0, .ref (ad 0)), (1, .int p1), (2, .int p2)]) (by decide) rfl (Nat.le_of_ble_eq_true rfl) rfl ?_
  intro p e s m below meth c A Q ls H locs hx hb hml hown hts hnw hA hK hP hD hS hl hz
  refine lv_aload_n hx hb dX4_looks_0 rfl (lv_at hl 0 rfl) ?_
  refine va_get (D := D) (ci := 4) (v := .ref (ad 1)) (C := RX4) (T := TX4) (N := 5) hx hb hts iX4_looks_X4 hown hK hP 0 rfl rfl 0 (by decide) (hts (.fieldLink RX4 12 "DecoyHouse" "plan" "LDecoyHouse$Plan;") (by decide +kernel)) (fun _ h9 => h9) rfl dX4_looks_1 ?_
  refine lv_iload_n hx hb dX4_looks_4 rfl (lv_at hl 1 rfl) ?_
  refine gq_calli (wsN := fun _ => (wdH ad ck Pd Pm Ps Pg Pj Bt Bi Bf Br Rt Rl Rr Ra Wt Wa Wk Wd Wn We Wb Hv)) (va_runV (As := [.int p1]) (rest := []) ⟨hx, hb, hml, hown, hts⟩ (c_X0_hasPlace l D ad ck H.size Pd Pm Ps Pg Pj p1 _ hw) (cwV 1 hts gX4_looks_X0_hasPlace rfl rfl rfl (by decide +kernel) ⟨Nat.le_of_ble_eq_true rfl, Nat.le_of_ble_eq_true rfl⟩) (gq_preV hK [0, 1] rfl hP hD [1, 2, 3] rfl rfl hnw 0 0 rfl rfl) rfl rfl hl.1 rfl (lv_room (Nat.le_of_ble_eq_true rfl)) dX4_looks_5 ⟨Nat.zero_le _, Nat.zero_le _⟩) hP hD hS hA [1, 2, 3] [0, 4, 5, 6, 7, 8, 9, 10, 11, 12, 13, 14, 15] rfl rfl rfl (by decide) [0, 13, 14, 15, 1, 2, 3, 4, 5, 6, 7, 8, 9, 10, 11, 12] rfl (fun _ => rfl) (fun r1 _ H locs hw hP hD hS => ?_)
  refine lv_if_eq (tgt := 18) hx hb dX4_looks_8 (by decide) (fun c2 => ?_) (fun c2 => ?_)
  · have hw := gq_t c2 hw
    refine lv_iconst (v := 0) hx hb dX4_looks_18 (by decide) ?_
    exact hz 0 Pm _ _ _ _ dX4_looks_19 gq_zb0 hw hP hD hS
  · have hw := gq_f c2 hw
    refine lv_iload_n hx hb dX4_looks_11 rfl (lv_at hl 2 rfl) ?_
    refine gq_calli (wsN := fun _ => (wdH ad ck Pd Pm Ps Pg Pj Bt Bi Bf Br Rt Rl Rr Ra Wt Wa Wk Wd Wn We Wb Hv)) (va_runS (As := [.int p2]) (rest := []) ⟨hx, hb, hml, hown, hts⟩ (c_X4_areMarks l D H.size p2 _ hw) (va_cwS 1 hts gX4_looks_X4_areMarks rfl rfl rfl (by decide +kernel) ⟨Nat.le_of_ble_eq_true rfl, Nat.le_of_ble_eq_true rfl⟩) (gq_preS hK [] rfl hP hD [] rfl rfl hnw) rfl rfl hl.1 rfl (lv_room (Nat.le_of_ble_eq_true rfl)) dX4_looks_12 ⟨Nat.zero_le _, Nat.zero_le _⟩) hP hD hS hA [] [0, 1, 2, 3, 4, 5, 6, 7, 8, 9, 10, 11, 12, 13, 14, 15] rfl rfl rfl (by decide) [0, 1, 2, 3, 4, 5, 6, 7, 8, 9, 10, 11, 12, 13, 14, 15] rfl (fun _ => rfl) (fun r3 _ H locs hw hP hD hS => ?_)
    refine lv_if_ne (tgt := 20) hx hb dX4_looks_15 (by decide) (fun c4 => ?_) (fun c4 => ?_)
    · have hw := gq_f c4 hw
      refine lv_aload_n hx hb dX4_looks_20 rfl (lv_at hl 0 rfl) ?_
      refine va_get (D := D) (ci := 4) (v := .ref (ad 1)) (C := RX4) (T := TX4) (N := 5) hx hb hts iX4_looks_X4 hown hK hP 0 rfl rfl 0 (by decide) (hts (.fieldLink RX4 12 "DecoyHouse" "plan" "LDecoyHouse$Plan;") (by decide +kernel)) (fun _ h9 => h9) rfl dX4_looks_21 ?_
      refine lv_iload_n hx hb dX4_looks_24 rfl (lv_at hl 1 rfl) ?_
      refine lv_iload_n hx hb dX4_looks_25 rfl (lv_at hl 2 rfl) ?_
      refine gq_callv (wsN := fun u => (wdH ad ck Pd u Ps Pg Pj Bt Bi Bf Br Rt Rl Rr Ra Wt Wa Wk Wd Wn We Wb Hv)) (va_runV (As := [.int p1, .int p2]) (rest := []) ⟨hx, hb, hml, hown, hts⟩ (c_X0_setMarks l D ad ck H.size Pd Pm Ps Pg Pj p1 p2 _ hw) (cwV 2 hts gX4_looks_X0_setMarks rfl rfl rfl (by decide +kernel) ⟨Nat.le_of_ble_eq_true rfl, Nat.le_of_ble_eq_true rfl⟩) (gq_preV hK [0, 1] rfl hP hD [1, 2, 3] rfl rfl hnw 0 0 rfl rfl) rfl rfl hl.1 rfl (lv_room (Nat.le_of_ble_eq_true rfl)) dX4_looks_26 ⟨Nat.zero_le _, Nat.zero_le _⟩) hP hD hS hA [1, 2, 3] [0, 4, 5, 6, 7, 8, 9, 10, 11, 12, 13, 14, 15] rfl rfl rfl (by decide) [0, 13, 14, 15, 1, 2, 3, 4, 5, 6, 7, 8, 9, 10, 11, 12] rfl (fun _ => rfl) (fun Pm_5 H locs hw hP hD hS => ?_)
      have hP : va_P D vwCl (wdH ad ck Pd Pm_5 Ps Pg Pj Bt Bi Bf Br Rt Rl Rr Ra Wt Wa Wk Wd Wn We Wb Hv) H := hP
      have hD : va_D A (wdH ad ck Pd Pm_5 Ps Pg Pj Bt Bi Bf Br Rt Rl Rr Ra Wt Wa Wk Wd Wn We Wb Hv) := hD
      refine lv_iconst (v := 1) hx hb dX4_looks_29 (by decide) ?_
      exact hz 1 Pm_5 _ _ _ _ dX4_looks_30 gq_zb1 hw hP hD hS
    · have hw := gq_t c4 hw
      refine lv_iconst (v := 0) hx hb dX4_looks_18 (by decide) ?_
      exact hz 0 Pm _ _ _ _ dX4_looks_19 gq_zb0 hw hP hD hS

def wp_X4_visible (p1 : Int32) (Hv : Int32) (post : Int32 → Int32 → Prop) : Prop :=
  wp_X4_areMarks p1 (fun (r1 : Int32) => (if r1 = 0 then post 0 Hv else post 1 p1))

theorem iX4_visible_X4 : ∀ w ∈ wsX40, w ∈ wsX4_visible := by decide +kernel
set_option maxHeartbeats 4000000 in
set_option maxRecDepth 100000 in
theorem c_X4_visible (l : Launch) (D : va_G) (ad : Nat → Nat) (ck : Nat → ClassId) (sz : Nat) (Pd : Nat → Int32) (Pm : Nat → Int32) (Ps : Int32) (Pg : Int32) (Pj : Int32) (Bt : Nat → Int32) (Bi : Nat → Int32) (Bf : Int32) (Br : Int32) (Rt : Nat → Int32) (Rl : Nat → Int32) (Rr : Nat → Int32) (Ra : Nat → Int32) (Wt : Nat → Int32) (Wa : Nat → Int32) (Wk : Nat → Int32) (Wd : Int32) (Wn : Int32) (We : Int32) (Wb : Int32) (Hv : Int32) (p1 : Int32) (post : Int32 → Int32 → Prop) (hw : wp_X4_visible p1 Hv post) : Met l yX4_visible wsX4_visible { frames := 1, cells := 0, slots := 0, locals := 20 } (va_Pc [.ref (ad 0), .int p1] (gq_pre D (tyH ck) (wdH ad ck Pd Pm Ps Pg Pj Bt Bi Bf Br Rt Rl Rr Ra Wt Wa Wk Wd Wn We Wb Hv) sz)) (va_Qi (fun (r : Int32) (u : Int32) => post r u) (gq_at D (va_A (wdH ad ck Pd Pm Ps Pg Pj Bt Bi Bf Br Rt Rl Rr Ra Wt Wa Wk Wd Wn We Wb Hv) sz) (fun (u : Int32) => (wdH ad ck Pd Pm Ps Pg Pj Bt Bi Bf Br Rt Rl Rr Ra Wt Wa Wk Wd Wn We Wb u))) (va_A (wdH ad ck Pd Pm Ps Pg Pj Bt Bi Bf Br Rt Rl Rr Ra Wt Wa Wk Wd Wn We Wb Hv) sz)) 0 0 (va_A (wdH ad ck Pd Pm Ps Pg Pj Bt Bi Bf Br Rt Rl Rr Ra Wt Wa Wk Wd Wn We Wb Hv) sz) := by
  refine gq_metz (cc := cX4_visible) (maxL := 2) (lv := [(0, .ref (ad 0)), (1, .int p1)]) (by decide) rfl (Nat.le_of_ble_eq_true rfl) rfl ?_
  intro p e s m below meth c A Q ls H locs hx hb hml hown hts hnw hA hK hP hD hS hl hz
  refine lv_iload_n hx hb dX4_visible_0 rfl (lv_at hl 1 rfl) ?_
  refine gq_calli (wsN := fun _ => (wdH ad ck Pd Pm Ps Pg Pj Bt Bi Bf Br Rt Rl Rr Ra Wt Wa Wk Wd Wn We Wb Hv)) (va_runS (As := [.int p1]) (rest := []) ⟨hx, hb, hml, hown, hts⟩ (c_X4_areMarks l D H.size p1 _ hw) (va_cwS 1 hts gX4_visible_X4_areMarks rfl rfl rfl (by decide +kernel) ⟨Nat.le_of_ble_eq_true rfl, Nat.le_of_ble_eq_true rfl⟩) (gq_preS hK [] rfl hP hD [] rfl rfl hnw) rfl rfl hl.1 rfl (lv_room (Nat.le_of_ble_eq_true rfl)) dX4_visible_1 ⟨Nat.zero_le _, Nat.zero_le _⟩) hP hD hS hA [] [0, 1, 2, 3, 4, 5, 6, 7, 8, 9, 10, 11, 12, 13, 14, 15] rfl rfl rfl (by decide) [0, 1, 2, 3, 4, 5, 6, 7, 8, 9, 10, 11, 12, 13, 14, 15] rfl (fun _ => rfl) (fun r1 _ H locs hw hP hD hS => ?_)
  refine lv_if_ne (tgt := 9) hx hb dX4_visible_4 (by decide) (fun c2 => ?_) (fun c2 => ?_)
  · have hw := gq_f c2 hw
    refine lv_aload_n hx hb dX4_visible_9 rfl (lv_at hl 0 rfl) ?_
    refine lv_iload_n hx hb dX4_visible_10 rfl (lv_at hl 1 rfl) ?_
    refine va_put (D := D) (ci := 4) (v := .int p1) (ty := .int) (C := RX4) (T := TX4) (N := 5) hx hb hts iX4_visible_X4 tyX4 tyX4_ok nmX4 hown hK hP hD hS 0 rfl rfl 4 (by decide) (hts (.fieldLink RX4 72 "DecoyHouse" "visibleMarks" "I") (by decide +kernel)) (fun _ h9 => h9) rfl (by decide +kernel) rfl rfl (Nat.le_of_ble_eq_true rfl) dX4_visible_11 (fun H locs hP hD hS => ?_)
    have hP : va_P D vwCl (wdH ad ck Pd Pm Ps Pg Pj Bt Bi Bf Br Rt Rl Rr Ra Wt Wa Wk Wd Wn We Wb p1) H := hP
    have hD : va_D A (wdH ad ck Pd Pm Ps Pg Pj Bt Bi Bf Br Rt Rl Rr Ra Wt Wa Wk Wd Wn We Wb p1) := hD
    refine lv_iconst (v := 1) hx hb dX4_visible_14 (by decide) ?_
    exact hz 1 p1 _ _ _ _ dX4_visible_15 gq_zb1 hw hP hD hS
  · have hw := gq_t c2 hw
    refine lv_iconst (v := 0) hx hb dX4_visible_7 (by decide) ?_
    exact hz 0 Hv _ _ _ _ dX4_visible_8 gq_zb0 hw hP hD hS

def wl_X4_isRow_2 (p1 : Int32) (p2 : Int32) (Ps : Int32)   (post : Int32 → Prop) : Nat → Int32 → Prop
  | 0, _ => False
  | n2 + 1, x1 => (if p1 ≤ x1 then post 1 else wp_X4_placeInRow p2 x1 (fun (r3 : Int32) => wp_X0_hasPlace r3 Ps (fun (r4 : Int32) => (if r4 = 0 then post 0 else gq_nm (x1 + 1) (fun v6 : Int32 => wl_X4_isRow_2 p1 p2 Ps post n2 v6)))))

def wp_X4_isRow (p1 : Int32) (p2 : Int32) (Ps : Int32) (post : Int32 → Prop) : Prop :=
  ∃ k2, wl_X4_isRow_2 p1 p2 Ps post k2 0

theorem iX4_isRow_X4 : ∀ w ∈ wsX40, w ∈ wsX4_isRow := by decide +kernel
set_option maxHeartbeats 4000000 in
set_option maxRecDepth 100000 in
theorem c_X4_isRow (l : Launch) (D : va_G) (ad : Nat → Nat) (ck : Nat → ClassId) (sz : Nat) (Pd : Nat → Int32) (Pm : Nat → Int32) (Ps : Int32) (Pg : Int32) (Pj : Int32) (Bt : Nat → Int32) (Bi : Nat → Int32) (Bf : Int32) (Br : Int32) (Rt : Nat → Int32) (Rl : Nat → Int32) (Rr : Nat → Int32) (Ra : Nat → Int32) (Wt : Nat → Int32) (Wa : Nat → Int32) (Wk : Nat → Int32) (Wd : Int32) (Wn : Int32) (We : Int32) (Wb : Int32) (Hv : Int32) (p1 : Int32) (p2 : Int32) (post : Int32 → Prop) (hw : wp_X4_isRow p1 p2 Ps post) : Met l yX4_isRow wsX4_isRow { frames := 1, cells := 0, slots := 0, locals := 21 } (va_Pc [.ref (ad 0), .int p1, .int p2] (gq_pre D (tyH ck) (wdH ad ck Pd Pm Ps Pg Pj Bt Bi Bf Br Rt Rl Rr Ra Wt Wa Wk Wd Wn We Wb Hv) sz)) (va_Qi (fun (r : Int32) (_ : Unit) => post r ) (gq_at D (va_A (wdH ad ck Pd Pm Ps Pg Pj Bt Bi Bf Br Rt Rl Rr Ra Wt Wa Wk Wd Wn We Wb Hv) sz) (fun (_ : Unit) => (wdH ad ck Pd Pm Ps Pg Pj Bt Bi Bf Br Rt Rl Rr Ra Wt Wa Wk Wd Wn We Wb Hv))) (va_A (wdH ad ck Pd Pm Ps Pg Pj Bt Bi Bf Br Rt Rl Rr Ra Wt Wa Wk Wd Wn We Wb Hv) sz)) 0 0 (va_A (wdH ad ck Pd Pm Ps Pg Pj Bt Bi Bf Br Rt Rl Rr Ra Wt Wa Wk Wd Wn We Wb Hv) sz) := by
  refine gq_metz (cc := cX4_isRow) (maxL := 4) (lv := [(0, .ref (ad 0)), (1, .int p1), (2, .int p2)]) (by decide) rfl (Nat.le_of_ble_eq_true rfl) rfl ?_
  intro p e s m below meth c A Q ls H locs hx hb hml hown hts hnw hA hK hP hD hS hl hz
  refine lv_iconst (v := 0) hx hb dX4_isRow_0 (by decide) ?_
  refine lv_istore_n (lv' := [(3, .int 0), (0, .ref (ad 0)), (1, .int p1), (2, .int p2)]) hx hb dX4_isRow_1 rfl hl (by decide) rfl (fun ls hl => ?_)
  have hL2 : ∀ (n : Nat) (x1 : Int32) (H : Heap) (locs : List Loc), wl_X4_isRow_2 p1 p2 Ps post n x1 → va_P D vwCl (wdH ad ck Pd Pm Ps Pg Pj Bt Bi Bf Br Rt Rl Rr Ra Wt Wa Wk Wd Wn We Wb Hv) H → va_D A (wdH ad ck Pd Pm Ps Pg Pj Bt Bi Bf Br Rt Rl Rr Ra Wt Wa Wk Wd Wn We Wb Hv) → va_S A s.heap H locs → ∀ ls : Array Slot, lv_has ls 4 [(0, .ref (ad 0)), (1, .int p1), (2, .int p2), (3, .int x1)] → W p l e { frames := 1, cells := 0, slots := 0, locals := 21 } s m ([.ref (ad 0), .int p1, .int p2] : List Value).toArray below meth c H locs 0 0 Q (F0 m 2 ls []) := by
    intro n
    induction n with
    | zero =>
      intro x1 H locs hw
      exact hw.elim
    | succ n ih =>
      intro x1 H locs hw hP hD hS ls hl
      refine lv_iload_n hx hb dX4_isRow_2 rfl (lv_at hl 3 rfl) ?_
      refine lv_iload_n hx hb dX4_isRow_3 rfl (lv_at hl 1 rfl) ?_
      refine lv_icmp_ge (tgt := 30) hx hb dX4_isRow_4 (by decide) (fun c2 => ?_) (fun c2 => ?_)
      · have hw := gq_t c2 hw
        refine lv_iconst (v := 1) hx hb dX4_isRow_30 (by decide) ?_
        exact hz 1 () _ _ _ _ dX4_isRow_31 gq_zb1 hw hP hD hS
      · have hw := gq_f c2 hw
        refine lv_aload_n hx hb dX4_isRow_7 rfl (lv_at hl 0 rfl) ?_
        refine va_get (D := D) (ci := 4) (v := .ref (ad 1)) (C := RX4) (T := TX4) (N := 5) hx hb hts iX4_isRow_X4 hown hK hP 0 rfl rfl 0 (by decide) (hts (.fieldLink RX4 12 "DecoyHouse" "plan" "LDecoyHouse$Plan;") (by decide +kernel)) (fun _ h9 => h9) rfl dX4_isRow_8 ?_
        refine lv_iload_n hx hb dX4_isRow_11 rfl (lv_at hl 2 rfl) ?_
        refine lv_iload_n hx hb dX4_isRow_12 rfl (lv_at hl 3 rfl) ?_
        refine gq_calli (wsN := fun _ => (wdH ad ck Pd Pm Ps Pg Pj Bt Bi Bf Br Rt Rl Rr Ra Wt Wa Wk Wd Wn We Wb Hv)) (va_runS (As := [.int p2, .int x1]) (rest := [.ref (ad 1)]) ⟨hx, hb, hml, hown, hts⟩ (c_X4_placeInRow l D H.size p2 x1 _ hw) (va_cwS 2 hts gX4_isRow_X4_placeInRow rfl rfl rfl (by decide +kernel) ⟨Nat.le_of_ble_eq_true rfl, Nat.le_of_ble_eq_true rfl⟩) (gq_preS hK [] rfl hP hD [] rfl rfl hnw) rfl rfl hl.1 rfl (lv_room (Nat.le_of_ble_eq_true rfl)) dX4_isRow_13 ⟨Nat.zero_le _, Nat.zero_le _⟩) hP hD hS hA [] [0, 1, 2, 3, 4, 5, 6, 7, 8, 9, 10, 11, 12, 13, 14, 15] rfl rfl rfl (by decide) [0, 1, 2, 3, 4, 5, 6, 7, 8, 9, 10, 11, 12, 13, 14, 15] rfl (fun _ => rfl) (fun r3 _ H locs hw hP hD hS => ?_)
        refine gq_calli (wsN := fun _ => (wdH ad ck Pd Pm Ps Pg Pj Bt Bi Bf Br Rt Rl Rr Ra Wt Wa Wk Wd Wn We Wb Hv)) (va_runV (As := [.int r3]) (rest := []) ⟨hx, hb, hml, hown, hts⟩ (c_X0_hasPlace l D ad ck H.size Pd Pm Ps Pg Pj r3 _ hw) (cwV 1 hts gX4_isRow_X0_hasPlace rfl rfl rfl (by decide +kernel) ⟨Nat.le_of_ble_eq_true rfl, Nat.le_of_ble_eq_true rfl⟩) (gq_preV hK [0, 1] rfl hP hD [1, 2, 3] rfl rfl hnw 0 0 rfl rfl) rfl rfl hl.1 rfl (lv_room (Nat.le_of_ble_eq_true rfl)) dX4_isRow_16 ⟨Nat.zero_le _, Nat.zero_le _⟩) hP hD hS hA [1, 2, 3] [0, 4, 5, 6, 7, 8, 9, 10, 11, 12, 13, 14, 15] rfl rfl rfl (by decide) [0, 13, 14, 15, 1, 2, 3, 4, 5, 6, 7, 8, 9, 10, 11, 12] rfl (fun _ => rfl) (fun r4 _ H locs hw hP hD hS => ?_)
        refine lv_if_ne (tgt := 24) hx hb dX4_isRow_19 (by decide) (fun c5 => ?_) (fun c5 => ?_)
        · have hw := gq_f c5 hw
          obtain ⟨v6, ev6⟩ : ∃ y : Int32, y = x1 + 1 := ⟨_, rfl⟩
          have hw := gq_at1 hw ev6
          refine lv_iinc (v := v6) (lv' := [(3, .int v6), (0, .ref (ad 0)), (1, .int p1), (2, .int p2)]) hx hb dX4_isRow_24 hl (k := 3) rfl (by rw [ev6]; rfl) (by decide) rfl (fun ls hl => ?_)
          refine lv_goto (tgt := 2) hx hb dX4_isRow_27 (by decide) ?_
          exact ih v6 _ _ hw hP hD hS ls (lv_sub hl [1, 2, 3, 0] rfl)
        · have hw := gq_t c5 hw
          refine lv_iconst (v := 0) hx hb dX4_isRow_22 (by decide) ?_
          exact hz 0 () _ _ _ _ dX4_isRow_23 gq_zb0 hw hP hD hS
  obtain ⟨n, hw⟩ := hw
  exact hL2 n 0 _ _ hw hP hD hS ls (lv_sub hl [1, 2, 3, 0] rfl)

def wp_X4_round (p1 : Int32) (p2 : Int32) (p3 : Int32) (p4 : Int32) (Ps : Int32) (Rt : Nat → Int32) (Rl : Nat → Int32) (Rr : Nat → Int32) (Ra : Nat → Int32) (post : Int32 → (Nat → Int32) → (Nat → Int32) → (Nat → Int32) → (Nat → Int32) → Prop) : Prop :=
  (if p1 < 0 then post 0 Rt Rl Rr Ra else (if 6 ≤ p1 then post 0 Rt Rl Rr Ra else (if p2 < 0 then post 0 Rt Rl Rr Ra else (if p2 ≤ 99 then (if p3 < 0 then post 0 Rt Rl Rr Ra else (if 8 < p3 then post 0 Rt Rl Rr Ra else wp_X4_isRow p3 p4 Ps (fun (r7 : Int32) => (if r7 = 0 then post 0 Rt Rl Rr Ra else wp_X1_replace p1 p2 p3 p4 Rt Rl Rr Ra (fun (Rt_9 : Nat → Int32) (Rl_10 : Nat → Int32) (Rr_11 : Nat → Int32) (Ra_12 : Nat → Int32) => post 1 Rt_9 Rl_10 Rr_11 Ra_12))))) else post 0 Rt Rl Rr Ra))))

theorem iX4_round_X4 : ∀ w ∈ wsX40, w ∈ wsX4_round := by decide +kernel
set_option maxHeartbeats 4000000 in
set_option maxRecDepth 100000 in
theorem c_X4_round (l : Launch) (D : va_G) (ad : Nat → Nat) (ck : Nat → ClassId) (sz : Nat) (Pd : Nat → Int32) (Pm : Nat → Int32) (Ps : Int32) (Pg : Int32) (Pj : Int32) (Bt : Nat → Int32) (Bi : Nat → Int32) (Bf : Int32) (Br : Int32) (Rt : Nat → Int32) (Rl : Nat → Int32) (Rr : Nat → Int32) (Ra : Nat → Int32) (Wt : Nat → Int32) (Wa : Nat → Int32) (Wk : Nat → Int32) (Wd : Int32) (Wn : Int32) (We : Int32) (Wb : Int32) (Hv : Int32) (p1 : Int32) (p2 : Int32) (p3 : Int32) (p4 : Int32) (post : Int32 → (Nat → Int32) → (Nat → Int32) → (Nat → Int32) → (Nat → Int32) → Prop) (hw : wp_X4_round p1 p2 p3 p4 Ps Rt Rl Rr Ra post) : Met l yX4_round wsX4_round { frames := 3, cells := 0, slots := 0, locals := 70 } (va_Pc [.ref (ad 0), .int p1, .int p2, .int p3, .int p4] (gq_pre D (tyH ck) (wdH ad ck Pd Pm Ps Pg Pj Bt Bi Bf Br Rt Rl Rr Ra Wt Wa Wk Wd Wn We Wb Hv) sz)) (va_Qi (fun (r : Int32) (u : (Nat → Int32) × (Nat → Int32) × (Nat → Int32) × (Nat → Int32)) => post r u.1 u.2.1 u.2.2.1 u.2.2.2) (gq_at D (va_A (wdH ad ck Pd Pm Ps Pg Pj Bt Bi Bf Br Rt Rl Rr Ra Wt Wa Wk Wd Wn We Wb Hv) sz) (fun (u : (Nat → Int32) × (Nat → Int32) × (Nat → Int32) × (Nat → Int32)) => (wdH ad ck Pd Pm Ps Pg Pj Bt Bi Bf Br u.1 u.2.1 u.2.2.1 u.2.2.2 Wt Wa Wk Wd Wn We Wb Hv))) (va_A (wdH ad ck Pd Pm Ps Pg Pj Bt Bi Bf Br Rt Rl Rr Ra Wt Wa Wk Wd Wn We Wb Hv) sz)) 0 0 (va_A (wdH ad ck Pd Pm Ps Pg Pj Bt Bi Bf Br Rt Rl Rr Ra Wt Wa Wk Wd Wn We Wb Hv) sz) := by
  refine gq_metz (cc := cX4_round) (maxL := 5) (lv := [(0, .ref (ad 0)), (1, .int p1), (2, .int p2), (3, .int p3), (4, .int p4)]) (by decide) rfl (Nat.le_of_ble_eq_true rfl) rfl ?_
  intro p e s m below meth c A Q ls H locs hx hb hml hown hts hnw hA hK hP hD hS hl hz
  refine lv_iload_n hx hb dX4_round_0 rfl (lv_at hl 1 rfl) ?_
  refine lv_if_lt (tgt := 20) hx hb dX4_round_1 (by decide) (fun c1 => ?_) (fun c1 => ?_)
  · have hw := gq_t c1 hw
    refine lv_iconst (v := 0) hx hb dX4_round_20 (by decide) ?_
    exact hz 0 (Rt, Rl, Rr, Ra) _ _ _ _ dX4_round_21 gq_zb0 hw hP hD hS
  · have hw := gq_f c1 hw
    refine lv_iload_n hx hb dX4_round_4 rfl (lv_at hl 1 rfl) ?_
    refine lv_bipush (v := 6) hx hb dX4_round_5 (by decide) ?_
    refine lv_icmp_ge (tgt := 20) hx hb dX4_round_7 (by decide) (fun c2 => ?_) (fun c2 => ?_)
    · have hw := gq_t c2 hw
      refine lv_iconst (v := 0) hx hb dX4_round_20 (by decide) ?_
      exact hz 0 (Rt, Rl, Rr, Ra) _ _ _ _ dX4_round_21 gq_zb0 hw hP hD hS
    · have hw := gq_f c2 hw
      refine lv_iload_n hx hb dX4_round_10 rfl (lv_at hl 2 rfl) ?_
      refine lv_if_lt (tgt := 20) hx hb dX4_round_11 (by decide) (fun c3 => ?_) (fun c3 => ?_)
      · have hw := gq_t c3 hw
        refine lv_iconst (v := 0) hx hb dX4_round_20 (by decide) ?_
        exact hz 0 (Rt, Rl, Rr, Ra) _ _ _ _ dX4_round_21 gq_zb0 hw hP hD hS
      · have hw := gq_f c3 hw
        refine lv_iload_n hx hb dX4_round_14 rfl (lv_at hl 2 rfl) ?_
        refine lv_bipush (v := 99) hx hb dX4_round_15 (by decide) ?_
        refine lv_icmp_le (tgt := 22) hx hb dX4_round_17 (by decide) (fun c4 => ?_) (fun c4 => ?_)
        · have hw := gq_t c4 hw
          refine lv_iload_n hx hb dX4_round_22 rfl (lv_at hl 3 rfl) ?_
          refine lv_if_lt (tgt := 42) hx hb dX4_round_23 (by decide) (fun c5 => ?_) (fun c5 => ?_)
          · have hw := gq_t c5 hw
            refine lv_iconst (v := 0) hx hb dX4_round_42 (by decide) ?_
            exact hz 0 (Rt, Rl, Rr, Ra) _ _ _ _ dX4_round_43 gq_zb0 hw hP hD hS
          · have hw := gq_f c5 hw
            refine lv_iload_n hx hb dX4_round_26 rfl (lv_at hl 3 rfl) ?_
            refine lv_bipush (v := 8) hx hb dX4_round_27 (by decide) ?_
            refine lv_icmp_gt (tgt := 42) hx hb dX4_round_29 (by decide) (fun c6 => ?_) (fun c6 => ?_)
            · have hw := gq_t c6 hw
              refine lv_iconst (v := 0) hx hb dX4_round_42 (by decide) ?_
              exact hz 0 (Rt, Rl, Rr, Ra) _ _ _ _ dX4_round_43 gq_zb0 hw hP hD hS
            · have hw := gq_f c6 hw
              refine lv_aload_n hx hb dX4_round_32 rfl (lv_at hl 0 rfl) ?_
              refine lv_iload_n hx hb dX4_round_33 rfl (lv_at hl 3 rfl) ?_
              refine lv_iload hx hb dX4_round_34 (lv_at hl 4 rfl) ?_
              refine gq_calli (wsN := fun _ => (wdH ad ck Pd Pm Ps Pg Pj Bt Bi Bf Br Rt Rl Rr Ra Wt Wa Wk Wd Wn We Wb Hv)) (va_runV (As := [.int p3, .int p4]) (rest := []) ⟨hx, hb, hml, hown, hts⟩ (c_X4_isRow l D ad ck H.size Pd Pm Ps Pg Pj Bt Bi Bf Br Rt Rl Rr Ra Wt Wa Wk Wd Wn We Wb Hv p3 p4 _ hw) (cwV 2 hts gX4_round_X4_isRow rfl rfl rfl (by decide +kernel) ⟨Nat.le_of_ble_eq_true rfl, Nat.le_of_ble_eq_true rfl⟩) (gq_preV hK [0, 1, 2, 3, 4, 5, 6, 7, 8, 9, 10] rfl hP hD [0, 1, 2, 3, 4, 5, 6, 7, 8, 9, 10, 11, 12, 13, 14, 15] rfl rfl hnw 4 0 rfl rfl) rfl rfl hl.1 rfl (lv_room (Nat.le_of_ble_eq_true rfl)) dX4_round_36 ⟨Nat.zero_le _, Nat.zero_le _⟩) hP hD hS hA [0, 1, 2, 3, 4, 5, 6, 7, 8, 9, 10, 11, 12, 13, 14, 15] [] rfl rfl rfl (by decide) [0, 1, 2, 3, 4, 5, 6, 7, 8, 9, 10, 11, 12, 13, 14, 15] rfl (fun _ => rfl) (fun r7 _ H locs hw hP hD hS => ?_)
              refine lv_if_ne (tgt := 44) hx hb dX4_round_39 (by decide) (fun c8 => ?_) (fun c8 => ?_)
              · have hw := gq_f c8 hw
                refine lv_aload_n hx hb dX4_round_44 rfl (lv_at hl 0 rfl) ?_
                refine va_get (D := D) (ci := 4) (v := .ref (ad 7)) (C := RX4) (T := TX4) (N := 5) hx hb hts iX4_round_X4 hown hK hP 0 rfl rfl 2 (by decide) (hts (.fieldLink RX4 26 "DecoyHouse" "rounds" "LDecoyHouse$Rounds;") (by decide +kernel)) (fun _ h9 => h9) rfl dX4_round_45 ?_
                refine lv_iload_n hx hb dX4_round_48 rfl (lv_at hl 1 rfl) ?_
                refine lv_iload_n hx hb dX4_round_49 rfl (lv_at hl 2 rfl) ?_
                refine lv_iload_n hx hb dX4_round_50 rfl (lv_at hl 3 rfl) ?_
                refine lv_iload hx hb dX4_round_51 (lv_at hl 4 rfl) ?_
                refine gq_callv (wsN := fun u => (wdH ad ck Pd Pm Ps Pg Pj Bt Bi Bf Br u.1 u.2.1 u.2.2.1 u.2.2.2 Wt Wa Wk Wd Wn We Wb Hv)) (va_runV (As := [.int p1, .int p2, .int p3, .int p4]) (rest := []) ⟨hx, hb, hml, hown, hts⟩ (c_X1_replace l D ad ck H.size Rt Rl Rr Ra p1 p2 p3 p4 _ hw) (cwV 4 hts gX4_round_X1_replace rfl rfl rfl (by decide +kernel) ⟨Nat.le_of_ble_eq_true rfl, Nat.le_of_ble_eq_true rfl⟩) (gq_preV hK [4, 5, 6, 7] rfl hP hD [7, 8, 9, 10, 11] rfl rfl hnw 1 0 rfl rfl) rfl rfl hl.1 rfl (lv_room (Nat.le_of_ble_eq_true rfl)) dX4_round_53 ⟨Nat.zero_le _, Nat.zero_le _⟩) hP hD hS hA [7, 8, 9, 10, 11] [0, 1, 2, 3, 4, 5, 6, 12, 13, 14, 15] rfl rfl rfl (by decide) [0, 1, 2, 3, 4, 5, 6, 11, 12, 13, 14, 15, 7, 8, 9, 10] rfl (fun _ => rfl) (fun u_ H locs hw hP hD hS => ?_)
                obtain ⟨Rt_9, Rl_10, Rr_11, Ra_12⟩ := u_
                have hP : va_P D vwCl (wdH ad ck Pd Pm Ps Pg Pj Bt Bi Bf Br Rt_9 Rl_10 Rr_11 Ra_12 Wt Wa Wk Wd Wn We Wb Hv) H := hP
                have hD : va_D A (wdH ad ck Pd Pm Ps Pg Pj Bt Bi Bf Br Rt_9 Rl_10 Rr_11 Ra_12 Wt Wa Wk Wd Wn We Wb Hv) := hD
                refine lv_iconst (v := 1) hx hb dX4_round_56 (by decide) ?_
                exact hz 1 (Rt_9, Rl_10, Rr_11, Ra_12) _ _ _ _ dX4_round_57 gq_zb1 hw hP hD hS
              · have hw := gq_t c8 hw
                refine lv_iconst (v := 0) hx hb dX4_round_42 (by decide) ?_
                exact hz 0 (Rt, Rl, Rr, Ra) _ _ _ _ dX4_round_43 gq_zb0 hw hP hD hS
        · have hw := gq_f c4 hw
          refine lv_iconst (v := 0) hx hb dX4_round_20 (by decide) ?_
          exact hz 0 (Rt, Rl, Rr, Ra) _ _ _ _ dX4_round_21 gq_zb0 hw hP hD hS

def wp_X4_look (p1 : Int32) (Pd : Nat → Int32) (Ps : Int32) (Wk : Nat → Int32) (Wd : Int32) (Wn : Int32) (We : Int32) (Wb : Int32) (Hv : Int32) (post : Int32 → Prop) : Prop :=
  (if p1 = 0 then wp_X0_size Ps (fun (r1 : Int32) => post r1) else (if p1 = 1 then wp_X0_countDoors Pd (fun (r2 : Int32) => post r2) else (if p1 = 2 then wp_X2_decoySet Wd (fun (r3 : Int32) => post r3) else (if p1 = 3 then wp_X2_knownSet Wk We (fun (r4 : Int32) => post r4) else (if p1 = 4 then wp_X2_today We (fun (r5 : Int32) => post r5) else (if p1 = 5 then wp_X2_touchCount Wn (fun (r6 : Int32) => post r6) else (if p1 = 6 then post Hv else (if p1 = 7 then wp_X2_bears Wb (fun (r7 : Int32) => post r7) else post (-1)))))))))

theorem iX4_look_X4 : ∀ w ∈ wsX40, w ∈ wsX4_look := by decide +kernel
set_option maxHeartbeats 4000000 in
set_option maxRecDepth 100000 in
theorem c_X4_look (l : Launch) (D : va_G) (ad : Nat → Nat) (ck : Nat → ClassId) (sz : Nat) (Pd : Nat → Int32) (Pm : Nat → Int32) (Ps : Int32) (Pg : Int32) (Pj : Int32) (Bt : Nat → Int32) (Bi : Nat → Int32) (Bf : Int32) (Br : Int32) (Rt : Nat → Int32) (Rl : Nat → Int32) (Rr : Nat → Int32) (Ra : Nat → Int32) (Wt : Nat → Int32) (Wa : Nat → Int32) (Wk : Nat → Int32) (Wd : Int32) (Wn : Int32) (We : Int32) (Wb : Int32) (Hv : Int32) (p1 : Int32) (post : Int32 → Prop) (hw : wp_X4_look p1 Pd Ps Wk Wd Wn We Wb Hv post) : Met l yX4_look wsX4_look { frames := 2, cells := 0, slots := 0, locals := 45 } (va_Pc [.ref (ad 0), .int p1] (gq_pre D (tyH ck) (wdH ad ck Pd Pm Ps Pg Pj Bt Bi Bf Br Rt Rl Rr Ra Wt Wa Wk Wd Wn We Wb Hv) sz)) (va_Qi (fun (r : Int32) (_ : Unit) => post r ) (gq_at D (va_A (wdH ad ck Pd Pm Ps Pg Pj Bt Bi Bf Br Rt Rl Rr Ra Wt Wa Wk Wd Wn We Wb Hv) sz) (fun (_ : Unit) => (wdH ad ck Pd Pm Ps Pg Pj Bt Bi Bf Br Rt Rl Rr Ra Wt Wa Wk Wd Wn We Wb Hv))) (va_A (wdH ad ck Pd Pm Ps Pg Pj Bt Bi Bf Br Rt Rl Rr Ra Wt Wa Wk Wd Wn We Wb Hv) sz)) 0 0 (va_A (wdH ad ck Pd Pm Ps Pg Pj Bt Bi Bf Br Rt Rl Rr Ra Wt Wa Wk Wd Wn We Wb Hv) sz) := by
  refine gq_meti (cc := cX4_look) (maxL := 2) (lv := [(0, .ref (ad 0)), (1, .int p1)]) (by decide) rfl (Nat.le_of_ble_eq_true rfl) rfl ?_
  intro p e s m below meth c A Q ls H locs hx hb hml hown hts hnw hA hK hP hD hS hl hz
  refine lv_iload_n hx hb dX4_look_0 rfl (lv_at hl 1 rfl) ?_
  rcases Decidable.em (p1 = 0) with cs1_0 | cs1_0
  · have hw := gq_t cs1_0 hw
    refine lv_tableIn (off := 47) (tgt := 48) hx hb dX4_look_1 (by rw [cs1_0]; decide) (by rw [cs1_0]; decide) (by rw [cs1_0]; decide) (by decide) ?_
    refine lv_aload_n hx hb dX4_look_48 rfl (lv_at hl 0 rfl) ?_
    refine va_get (D := D) (ci := 4) (v := .ref (ad 1)) (C := RX4) (T := TX4) (N := 5) hx hb hts iX4_look_X4 hown hK hP 0 rfl rfl 0 (by decide) (hts (.fieldLink RX4 12 "DecoyHouse" "plan" "LDecoyHouse$Plan;") (by decide +kernel)) (fun _ h9 => h9) rfl dX4_look_49 ?_
    refine gq_calli (wsN := fun _ => (wdH ad ck Pd Pm Ps Pg Pj Bt Bi Bf Br Rt Rl Rr Ra Wt Wa Wk Wd Wn We Wb Hv)) (va_runV (As := []) (rest := []) ⟨hx, hb, hml, hown, hts⟩ (c_X0_size l D ad ck H.size Pd Pm Ps Pg Pj  _ hw) (cwV 0 hts gX4_look_X0_size rfl rfl rfl (by decide +kernel) ⟨Nat.le_of_ble_eq_true rfl, Nat.le_of_ble_eq_true rfl⟩) (gq_preV hK [0, 1] rfl hP hD [1, 2, 3] rfl rfl hnw 0 0 rfl rfl) rfl rfl hl.1 rfl (lv_room (Nat.le_of_ble_eq_true rfl)) dX4_look_52 ⟨Nat.zero_le _, Nat.zero_le _⟩) hP hD hS hA [1, 2, 3] [0, 4, 5, 6, 7, 8, 9, 10, 11, 12, 13, 14, 15] rfl rfl rfl (by decide) [0, 13, 14, 15, 1, 2, 3, 4, 5, 6, 7, 8, 9, 10, 11, 12] rfl (fun _ => rfl) (fun r1 _ H locs hw hP hD hS => ?_)
    exact hz r1 () _ _ _ _ dX4_look_55 hw hP hD hS
  · have hw := gq_f cs1_0 hw
    rcases Decidable.em (p1 = 1) with cs1_1 | cs1_1
    · have hw := gq_t cs1_1 hw
      refine lv_tableIn (off := 55) (tgt := 56) hx hb dX4_look_1 (by rw [cs1_1]; decide) (by rw [cs1_1]; decide) (by rw [cs1_1]; decide) (by decide) ?_
      refine lv_aload_n hx hb dX4_look_56 rfl (lv_at hl 0 rfl) ?_
      refine va_get (D := D) (ci := 4) (v := .ref (ad 1)) (C := RX4) (T := TX4) (N := 5) hx hb hts iX4_look_X4 hown hK hP 0 rfl rfl 0 (by decide) (hts (.fieldLink RX4 12 "DecoyHouse" "plan" "LDecoyHouse$Plan;") (by decide +kernel)) (fun _ h9 => h9) rfl dX4_look_57 ?_
      refine gq_calli (wsN := fun _ => (wdH ad ck Pd Pm Ps Pg Pj Bt Bi Bf Br Rt Rl Rr Ra Wt Wa Wk Wd Wn We Wb Hv)) (va_runV (As := []) (rest := []) ⟨hx, hb, hml, hown, hts⟩ (c_X0_countDoors l D ad ck H.size Pd Pm Ps Pg Pj  _ hw) (cwV 0 hts gX4_look_X0_countDoors rfl rfl rfl (by decide +kernel) ⟨Nat.le_of_ble_eq_true rfl, Nat.le_of_ble_eq_true rfl⟩) (gq_preV hK [0, 1] rfl hP hD [1, 2, 3] rfl rfl hnw 0 0 rfl rfl) rfl rfl hl.1 rfl (lv_room (Nat.le_of_ble_eq_true rfl)) dX4_look_60 ⟨Nat.zero_le _, Nat.zero_le _⟩) hP hD hS hA [1, 2, 3] [0, 4, 5, 6, 7, 8, 9, 10, 11, 12, 13, 14, 15] rfl rfl rfl (by decide) [0, 13, 14, 15, 1, 2, 3, 4, 5, 6, 7, 8, 9, 10, 11, 12] rfl (fun _ => rfl) (fun r2 _ H locs hw hP hD hS => ?_)
      exact hz r2 () _ _ _ _ dX4_look_63 hw hP hD hS
    · have hw := gq_f cs1_1 hw
      rcases Decidable.em (p1 = 2) with cs1_2 | cs1_2
      · have hw := gq_t cs1_2 hw
        refine lv_tableIn (off := 63) (tgt := 64) hx hb dX4_look_1 (by rw [cs1_2]; decide) (by rw [cs1_2]; decide) (by rw [cs1_2]; decide) (by decide) ?_
        refine lv_aload_n hx hb dX4_look_64 rfl (lv_at hl 0 rfl) ?_
        refine va_get (D := D) (ci := 4) (v := .ref (ad 12)) (C := RX4) (T := TX4) (N := 5) hx hb hts iX4_look_X4 hown hK hP 0 rfl rfl 3 (by decide) (hts (.fieldLink RX4 33 "DecoyHouse" "watch" "LDecoyHouse$Watch;") (by decide +kernel)) (fun _ h9 => h9) rfl dX4_look_65 ?_
        refine gq_calli (wsN := fun _ => (wdH ad ck Pd Pm Ps Pg Pj Bt Bi Bf Br Rt Rl Rr Ra Wt Wa Wk Wd Wn We Wb Hv)) (va_runV (As := []) (rest := []) ⟨hx, hb, hml, hown, hts⟩ (c_X2_decoySet l D ad ck H.size Wt Wa Wk Wd Wn We Wb  _ hw) (cwV 0 hts gX4_look_X2_decoySet rfl rfl rfl (by decide +kernel) ⟨Nat.le_of_ble_eq_true rfl, Nat.le_of_ble_eq_true rfl⟩) (gq_preV hK [8, 9, 10] rfl hP hD [12, 13, 14, 15] rfl rfl hnw 2 0 rfl rfl) rfl rfl hl.1 rfl (lv_room (Nat.le_of_ble_eq_true rfl)) dX4_look_68 ⟨Nat.zero_le _, Nat.zero_le _⟩) hP hD hS hA [12, 13, 14, 15] [0, 1, 2, 3, 4, 5, 6, 7, 8, 9, 10, 11] rfl rfl rfl (by decide) [0, 1, 2, 3, 4, 5, 6, 7, 8, 9, 10, 11, 12, 13, 14, 15] rfl (fun _ => rfl) (fun r3 _ H locs hw hP hD hS => ?_)
        exact hz r3 () _ _ _ _ dX4_look_71 hw hP hD hS
      · have hw := gq_f cs1_2 hw
        rcases Decidable.em (p1 = 3) with cs1_3 | cs1_3
        · have hw := gq_t cs1_3 hw
          refine lv_tableIn (off := 71) (tgt := 72) hx hb dX4_look_1 (by rw [cs1_3]; decide) (by rw [cs1_3]; decide) (by rw [cs1_3]; decide) (by decide) ?_
          refine lv_aload_n hx hb dX4_look_72 rfl (lv_at hl 0 rfl) ?_
          refine va_get (D := D) (ci := 4) (v := .ref (ad 12)) (C := RX4) (T := TX4) (N := 5) hx hb hts iX4_look_X4 hown hK hP 0 rfl rfl 3 (by decide) (hts (.fieldLink RX4 33 "DecoyHouse" "watch" "LDecoyHouse$Watch;") (by decide +kernel)) (fun _ h9 => h9) rfl dX4_look_73 ?_
          refine gq_calli (wsN := fun _ => (wdH ad ck Pd Pm Ps Pg Pj Bt Bi Bf Br Rt Rl Rr Ra Wt Wa Wk Wd Wn We Wb Hv)) (va_runV (As := []) (rest := []) ⟨hx, hb, hml, hown, hts⟩ (c_X2_knownSet l D ad ck H.size Wt Wa Wk Wd Wn We Wb  _ hw) (cwV 0 hts gX4_look_X2_knownSet rfl rfl rfl (by decide +kernel) ⟨Nat.le_of_ble_eq_true rfl, Nat.le_of_ble_eq_true rfl⟩) (gq_preV hK [8, 9, 10] rfl hP hD [12, 13, 14, 15] rfl rfl hnw 2 0 rfl rfl) rfl rfl hl.1 rfl (lv_room (Nat.le_of_ble_eq_true rfl)) dX4_look_76 ⟨Nat.zero_le _, Nat.zero_le _⟩) hP hD hS hA [12, 13, 14, 15] [0, 1, 2, 3, 4, 5, 6, 7, 8, 9, 10, 11] rfl rfl rfl (by decide) [0, 1, 2, 3, 4, 5, 6, 7, 8, 9, 10, 11, 12, 13, 14, 15] rfl (fun _ => rfl) (fun r4 _ H locs hw hP hD hS => ?_)
          exact hz r4 () _ _ _ _ dX4_look_79 hw hP hD hS
        · have hw := gq_f cs1_3 hw
          rcases Decidable.em (p1 = 4) with cs1_4 | cs1_4
          · have hw := gq_t cs1_4 hw
            refine lv_tableIn (off := 79) (tgt := 80) hx hb dX4_look_1 (by rw [cs1_4]; decide) (by rw [cs1_4]; decide) (by rw [cs1_4]; decide) (by decide) ?_
            refine lv_aload_n hx hb dX4_look_80 rfl (lv_at hl 0 rfl) ?_
            refine va_get (D := D) (ci := 4) (v := .ref (ad 12)) (C := RX4) (T := TX4) (N := 5) hx hb hts iX4_look_X4 hown hK hP 0 rfl rfl 3 (by decide) (hts (.fieldLink RX4 33 "DecoyHouse" "watch" "LDecoyHouse$Watch;") (by decide +kernel)) (fun _ h9 => h9) rfl dX4_look_81 ?_
            refine gq_calli (wsN := fun _ => (wdH ad ck Pd Pm Ps Pg Pj Bt Bi Bf Br Rt Rl Rr Ra Wt Wa Wk Wd Wn We Wb Hv)) (va_runV (As := []) (rest := []) ⟨hx, hb, hml, hown, hts⟩ (c_X2_today l D ad ck H.size Wt Wa Wk Wd Wn We Wb  _ hw) (cwV 0 hts gX4_look_X2_today rfl rfl rfl (by decide +kernel) ⟨Nat.le_of_ble_eq_true rfl, Nat.le_of_ble_eq_true rfl⟩) (gq_preV hK [8, 9, 10] rfl hP hD [12, 13, 14, 15] rfl rfl hnw 2 0 rfl rfl) rfl rfl hl.1 rfl (lv_room (Nat.le_of_ble_eq_true rfl)) dX4_look_84 ⟨Nat.zero_le _, Nat.zero_le _⟩) hP hD hS hA [12, 13, 14, 15] [0, 1, 2, 3, 4, 5, 6, 7, 8, 9, 10, 11] rfl rfl rfl (by decide) [0, 1, 2, 3, 4, 5, 6, 7, 8, 9, 10, 11, 12, 13, 14, 15] rfl (fun _ => rfl) (fun r5 _ H locs hw hP hD hS => ?_)
            exact hz r5 () _ _ _ _ dX4_look_87 hw hP hD hS
          · have hw := gq_f cs1_4 hw
            rcases Decidable.em (p1 = 5) with cs1_5 | cs1_5
            · have hw := gq_t cs1_5 hw
              refine lv_tableIn (off := 87) (tgt := 88) hx hb dX4_look_1 (by rw [cs1_5]; decide) (by rw [cs1_5]; decide) (by rw [cs1_5]; decide) (by decide) ?_
              refine lv_aload_n hx hb dX4_look_88 rfl (lv_at hl 0 rfl) ?_
              refine va_get (D := D) (ci := 4) (v := .ref (ad 12)) (C := RX4) (T := TX4) (N := 5) hx hb hts iX4_look_X4 hown hK hP 0 rfl rfl 3 (by decide) (hts (.fieldLink RX4 33 "DecoyHouse" "watch" "LDecoyHouse$Watch;") (by decide +kernel)) (fun _ h9 => h9) rfl dX4_look_89 ?_
              refine gq_calli (wsN := fun _ => (wdH ad ck Pd Pm Ps Pg Pj Bt Bi Bf Br Rt Rl Rr Ra Wt Wa Wk Wd Wn We Wb Hv)) (va_runV (As := []) (rest := []) ⟨hx, hb, hml, hown, hts⟩ (c_X2_touchCount l D ad ck H.size Wt Wa Wk Wd Wn We Wb  _ hw) (cwV 0 hts gX4_look_X2_touchCount rfl rfl rfl (by decide +kernel) ⟨Nat.le_of_ble_eq_true rfl, Nat.le_of_ble_eq_true rfl⟩) (gq_preV hK [8, 9, 10] rfl hP hD [12, 13, 14, 15] rfl rfl hnw 2 0 rfl rfl) rfl rfl hl.1 rfl (lv_room (Nat.le_of_ble_eq_true rfl)) dX4_look_92 ⟨Nat.zero_le _, Nat.zero_le _⟩) hP hD hS hA [12, 13, 14, 15] [0, 1, 2, 3, 4, 5, 6, 7, 8, 9, 10, 11] rfl rfl rfl (by decide) [0, 1, 2, 3, 4, 5, 6, 7, 8, 9, 10, 11, 12, 13, 14, 15] rfl (fun _ => rfl) (fun r6 _ H locs hw hP hD hS => ?_)
              exact hz r6 () _ _ _ _ dX4_look_95 hw hP hD hS
            · have hw := gq_f cs1_5 hw
              rcases Decidable.em (p1 = 6) with cs1_6 | cs1_6
              · have hw := gq_t cs1_6 hw
                refine lv_tableIn (off := 95) (tgt := 96) hx hb dX4_look_1 (by rw [cs1_6]; decide) (by rw [cs1_6]; decide) (by rw [cs1_6]; decide) (by decide) ?_
                refine lv_aload_n hx hb dX4_look_96 rfl (lv_at hl 0 rfl) ?_
                refine va_get (D := D) (ci := 4) (v := .int Hv) (C := RX4) (T := TX4) (N := 5) hx hb hts iX4_look_X4 hown hK hP 0 rfl rfl 4 (by decide) (hts (.fieldLink RX4 72 "DecoyHouse" "visibleMarks" "I") (by decide +kernel)) (fun _ h9 => h9) rfl dX4_look_97 ?_
                exact hz Hv () _ _ _ _ dX4_look_100 hw hP hD hS
              · have hw := gq_f cs1_6 hw
                rcases Decidable.em (p1 = 7) with cs1_7 | cs1_7
                · have hw := gq_t cs1_7 hw
                  refine lv_tableIn (off := 100) (tgt := 101) hx hb dX4_look_1 (by rw [cs1_7]; decide) (by rw [cs1_7]; decide) (by rw [cs1_7]; decide) (by decide) ?_
                  refine lv_aload_n hx hb dX4_look_101 rfl (lv_at hl 0 rfl) ?_
                  refine va_get (D := D) (ci := 4) (v := .ref (ad 12)) (C := RX4) (T := TX4) (N := 5) hx hb hts iX4_look_X4 hown hK hP 0 rfl rfl 3 (by decide) (hts (.fieldLink RX4 33 "DecoyHouse" "watch" "LDecoyHouse$Watch;") (by decide +kernel)) (fun _ h9 => h9) rfl dX4_look_102 ?_
                  refine gq_calli (wsN := fun _ => (wdH ad ck Pd Pm Ps Pg Pj Bt Bi Bf Br Rt Rl Rr Ra Wt Wa Wk Wd Wn We Wb Hv)) (va_runV (As := []) (rest := []) ⟨hx, hb, hml, hown, hts⟩ (c_X2_bears l D ad ck H.size Wt Wa Wk Wd Wn We Wb  _ hw) (cwV 0 hts gX4_look_X2_bears rfl rfl rfl (by decide +kernel) ⟨Nat.le_of_ble_eq_true rfl, Nat.le_of_ble_eq_true rfl⟩) (gq_preV hK [8, 9, 10] rfl hP hD [12, 13, 14, 15] rfl rfl hnw 2 0 rfl rfl) rfl rfl hl.1 rfl (lv_room (Nat.le_of_ble_eq_true rfl)) dX4_look_105 ⟨Nat.zero_le _, Nat.zero_le _⟩) hP hD hS hA [12, 13, 14, 15] [0, 1, 2, 3, 4, 5, 6, 7, 8, 9, 10, 11] rfl rfl rfl (by decide) [0, 1, 2, 3, 4, 5, 6, 7, 8, 9, 10, 11, 12, 13, 14, 15] rfl (fun _ => rfl) (fun r7 _ H locs hw hP hD hS => ?_)
                  exact hz r7 () _ _ _ _ dX4_look_108 hw hP hD hS
                · have hw := gq_f cs1_7 hw
                  refine lv_tableOut (tgt := 109) hx hb dX4_look_1 (gq_out 8 (fun k hk => by match k, hk with | 0, _ => exact cs1_0 | 1, _ => exact cs1_1 | 2, _ => exact cs1_2 | 3, _ => exact cs1_3 | 4, _ => exact cs1_4 | 5, _ => exact cs1_5 | 6, _ => exact cs1_6 | 7, _ => exact cs1_7 | k + 8, hk => omega)) (by decide) ?_
                  refine lv_iconst (v := (-1)) hx hb dX4_look_109 (by decide) ?_
                  exact hz (-1) () _ _ _ _ dX4_look_110 hw hP hD hS

def wp_X4_bookNow  (Pd : Nat → Int32) (Ps : Int32) (Pg : Int32) (Pj : Int32) (Bt : Nat → Int32) (Bi : Nat → Int32) (Bf : Int32) (Br : Int32) (post : (Nat → Int32) → (Nat → Int32) → Int32 → Int32 → Prop) : Prop :=
  wp_X3_readIfForgotten Pd Ps Pg Pj Bt Bi Bf Br (fun (Bt_1 : Nat → Int32) (Bi_2 : Nat → Int32) (Bf_3 : Int32) (Br_4 : Int32) => post Bt_1 Bi_2 Bf_3 Br_4)

theorem iX4_bookNow_X4 : ∀ w ∈ wsX40, w ∈ wsX4_bookNow := by decide +kernel
set_option maxHeartbeats 4000000 in
set_option maxRecDepth 100000 in
theorem c_X4_bookNow (l : Launch) (D : va_G) (ad : Nat → Nat) (ck : Nat → ClassId) (sz : Nat) (Pd : Nat → Int32) (Pm : Nat → Int32) (Ps : Int32) (Pg : Int32) (Pj : Int32) (Bt : Nat → Int32) (Bi : Nat → Int32) (Bf : Int32) (Br : Int32) (Rt : Nat → Int32) (Rl : Nat → Int32) (Rr : Nat → Int32) (Ra : Nat → Int32) (Wt : Nat → Int32) (Wa : Nat → Int32) (Wk : Nat → Int32) (Wd : Int32) (Wn : Int32) (We : Int32) (Wb : Int32) (Hv : Int32)  (post : (Nat → Int32) → (Nat → Int32) → Int32 → Int32 → Prop) (hw : wp_X4_bookNow Pd Ps Pg Pj Bt Bi Bf Br post) : Met l yX4_bookNow wsX4_bookNow { frames := 10, cells := 0, slots := 0, locals := 260 } (va_Pc [.ref (ad 0)] (gq_pre D (tyH ck) (wdH ad ck Pd Pm Ps Pg Pj Bt Bi Bf Br Rt Rl Rr Ra Wt Wa Wk Wd Wn We Wb Hv) sz)) (va_Qr (fun (u : (Nat → Int32) × (Nat → Int32) × Int32 × Int32) => post u.1 u.2.1 u.2.2.1 u.2.2.2) (fun u b t => b = (ad 4) ∧ gq_at D (va_A (wdH ad ck Pd Pm Ps Pg Pj Bt Bi Bf Br Rt Rl Rr Ra Wt Wa Wk Wd Wn We Wb Hv) sz) (fun (u : (Nat → Int32) × (Nat → Int32) × Int32 × Int32) => (wdH ad ck Pd Pm Ps Pg Pj u.1 u.2.1 u.2.2.1 u.2.2.2 Rt Rl Rr Ra Wt Wa Wk Wd Wn We Wb Hv)) u t) (va_A (wdH ad ck Pd Pm Ps Pg Pj Bt Bi Bf Br Rt Rl Rr Ra Wt Wa Wk Wd Wn We Wb Hv) sz)) 0 0 (va_A (wdH ad ck Pd Pm Ps Pg Pj Bt Bi Bf Br Rt Rl Rr Ra Wt Wa Wk Wd Wn We Wb Hv) sz) := by
  refine gq_metr (cc := cX4_bookNow) (maxL := 1) (lv := [(0, .ref (ad 0))]) (by decide) rfl (Nat.le_of_ble_eq_true rfl) rfl ?_
  intro p e s m below meth c A Q ls H locs hx hb hml hown hts hnw hA hK hP hD hS hl hz
  refine lv_aload_n hx hb dX4_bookNow_0 rfl (lv_at hl 0 rfl) ?_
  refine va_get (D := D) (ci := 4) (v := .ref (ad 4)) (C := RX4) (T := TX4) (N := 5) hx hb hts iX4_bookNow_X4 hown hK hP 0 rfl rfl 1 (by decide) (hts (.fieldLink RX4 19 "DecoyHouse" "book" "LDecoyHouse$WayBook;") (by decide +kernel)) (fun _ h9 => h9) rfl dX4_bookNow_1 ?_
  refine lv_aload_n hx hb dX4_bookNow_4 rfl (lv_at hl 0 rfl) ?_
  refine va_get (D := D) (ci := 4) (v := .ref (ad 1)) (C := RX4) (T := TX4) (N := 5) hx hb hts iX4_bookNow_X4 hown hK hP 0 rfl rfl 0 (by decide) (hts (.fieldLink RX4 12 "DecoyHouse" "plan" "LDecoyHouse$Plan;") (by decide +kernel)) (fun _ h9 => h9) rfl dX4_bookNow_5 ?_
  refine gq_callv (wsN := fun u => (wdH ad ck Pd Pm Ps Pg Pj u.1 u.2.1 u.2.2.1 u.2.2.2 Rt Rl Rr Ra Wt Wa Wk Wd Wn We Wb Hv)) (va_runV (As := [.ref (ad 1)]) (rest := []) ⟨hx, hb, hml, hown, hts⟩ (c_X3_readIfForgotten l D ad ck H.size Pd Pm Ps Pg Pj Bt Bi Bf Br  _ hw) (cwV 1 hts gX4_bookNow_X3_readIfForgotten rfl rfl rfl (by decide +kernel) ⟨Nat.le_of_ble_eq_true rfl, Nat.le_of_ble_eq_true rfl⟩) (gq_preV hK [2, 3, 0, 1] rfl hP hD [4, 5, 6, 1, 2, 3] rfl rfl hnw 3 0 rfl rfl) rfl rfl hl.1 rfl (lv_room (Nat.le_of_ble_eq_true rfl)) dX4_bookNow_8 ⟨Nat.zero_le _, Nat.zero_le _⟩) hP hD hS hA [4, 5, 6, 1, 2, 3] [0, 7, 8, 9, 10, 11, 12, 13, 14, 15] rfl rfl rfl (by decide) [0, 13, 14, 15, 10, 11, 12, 1, 2, 3, 4, 5, 6, 7, 8, 9] rfl (fun _ => rfl) (fun u_ H locs hw hP hD hS => ?_)
  obtain ⟨Bt_1, Bi_2, Bf_3, Br_4⟩ := u_
  have hP : va_P D vwCl (wdH ad ck Pd Pm Ps Pg Pj Bt_1 Bi_2 Bf_3 Br_4 Rt Rl Rr Ra Wt Wa Wk Wd Wn We Wb Hv) H := hP
  have hD : va_D A (wdH ad ck Pd Pm Ps Pg Pj Bt_1 Bi_2 Bf_3 Br_4 Rt Rl Rr Ra Wt Wa Wk Wd Wn We Wb Hv) := hD
  refine lv_aload_n hx hb dX4_bookNow_11 rfl (lv_at hl 0 rfl) ?_
  refine va_get (D := D) (ci := 4) (v := .ref (ad 4)) (C := RX4) (T := TX4) (N := 5) hx hb hts iX4_bookNow_X4 hown hK hP 0 rfl rfl 1 (by decide) (hts (.fieldLink RX4 19 "DecoyHouse" "book" "LDecoyHouse$WayBook;") (by decide +kernel)) (fun _ h9 => h9) rfl dX4_bookNow_12 ?_
  exact hz (Bt_1, Bi_2, Bf_3, Br_4) _ _ _ _ dX4_bookNow_15 hw hP hD hS

def wp_X4_ways  (Pd : Nat → Int32) (Ps : Int32) (Pg : Int32) (Pj : Int32) (Bt : Nat → Int32) (Bi : Nat → Int32) (Bf : Int32) (Br : Int32) (post : Int32 → (Nat → Int32) → (Nat → Int32) → Int32 → Int32 → Prop) : Prop :=
  wp_X4_bookNow Pd Ps Pg Pj Bt Bi Bf Br (fun (Bt_1 : Nat → Int32) (Bi_2 : Nat → Int32) (Bf_3 : Int32) (Br_4 : Int32) => wp_X3_count Bf_3 (fun (r5 : Int32) => post r5 Bt_1 Bi_2 Bf_3 Br_4))

set_option maxHeartbeats 4000000 in
set_option maxRecDepth 100000 in
theorem c_X4_ways (l : Launch) (D : va_G) (ad : Nat → Nat) (ck : Nat → ClassId) (sz : Nat) (Pd : Nat → Int32) (Pm : Nat → Int32) (Ps : Int32) (Pg : Int32) (Pj : Int32) (Bt : Nat → Int32) (Bi : Nat → Int32) (Bf : Int32) (Br : Int32) (Rt : Nat → Int32) (Rl : Nat → Int32) (Rr : Nat → Int32) (Ra : Nat → Int32) (Wt : Nat → Int32) (Wa : Nat → Int32) (Wk : Nat → Int32) (Wd : Int32) (Wn : Int32) (We : Int32) (Wb : Int32) (Hv : Int32)  (post : Int32 → (Nat → Int32) → (Nat → Int32) → Int32 → Int32 → Prop) (hw : wp_X4_ways Pd Ps Pg Pj Bt Bi Bf Br post) : Met l yX4_ways wsX4_ways { frames := 11, cells := 0, slots := 0, locals := 280 } (va_Pc [.ref (ad 0)] (gq_pre D (tyH ck) (wdH ad ck Pd Pm Ps Pg Pj Bt Bi Bf Br Rt Rl Rr Ra Wt Wa Wk Wd Wn We Wb Hv) sz)) (va_Qi (fun (r : Int32) (u : (Nat → Int32) × (Nat → Int32) × Int32 × Int32) => post r u.1 u.2.1 u.2.2.1 u.2.2.2) (gq_at D (va_A (wdH ad ck Pd Pm Ps Pg Pj Bt Bi Bf Br Rt Rl Rr Ra Wt Wa Wk Wd Wn We Wb Hv) sz) (fun (u : (Nat → Int32) × (Nat → Int32) × Int32 × Int32) => (wdH ad ck Pd Pm Ps Pg Pj u.1 u.2.1 u.2.2.1 u.2.2.2 Rt Rl Rr Ra Wt Wa Wk Wd Wn We Wb Hv))) (va_A (wdH ad ck Pd Pm Ps Pg Pj Bt Bi Bf Br Rt Rl Rr Ra Wt Wa Wk Wd Wn We Wb Hv) sz)) 0 0 (va_A (wdH ad ck Pd Pm Ps Pg Pj Bt Bi Bf Br Rt Rl Rr Ra Wt Wa Wk Wd Wn We Wb Hv) sz) := by
  refine gq_meti (cc := cX4_ways) (maxL := 1) (lv := [(0, .ref (ad 0))]) (by decide) rfl (Nat.le_of_ble_eq_true rfl) rfl ?_
  intro p e s m below meth c A Q ls H locs hx hb hml hown hts hnw hA hK hP hD hS hl hz
  refine lv_aload_n hx hb dX4_ways_0 rfl (lv_at hl 0 rfl) ?_
  refine gq_callr (wsN := fun u => (wdH ad ck Pd Pm Ps Pg Pj u.1 u.2.1 u.2.2.1 u.2.2.2 Rt Rl Rr Ra Wt Wa Wk Wd Wn We Wb Hv)) (va_runV (As := []) (rest := []) ⟨hx, hb, hml, hown, hts⟩ (c_X4_bookNow l D ad ck H.size Pd Pm Ps Pg Pj Bt Bi Bf Br Rt Rl Rr Ra Wt Wa Wk Wd Wn We Wb Hv  _ hw) (cwV 0 hts gX4_ways_X4_bookNow rfl rfl rfl (by decide +kernel) ⟨Nat.le_of_ble_eq_true rfl, Nat.le_of_ble_eq_true rfl⟩) (gq_preV hK [0, 1, 2, 3, 4, 5, 6, 7, 8, 9, 10] rfl hP hD [0, 1, 2, 3, 4, 5, 6, 7, 8, 9, 10, 11, 12, 13, 14, 15] rfl rfl hnw 4 0 rfl rfl) rfl rfl hl.1 rfl (lv_room (Nat.le_of_ble_eq_true rfl)) dX4_ways_1 ⟨Nat.zero_le _, Nat.zero_le _⟩) hP hD hS hA [0, 1, 2, 3, 4, 5, 6, 7, 8, 9, 10, 11, 12, 13, 14, 15] [] rfl rfl rfl (by decide) [0, 1, 2, 3, 4, 5, 6, 7, 8, 9, 10, 11, 12, 13, 14, 15] rfl (fun _ => rfl) (fun u_ H locs hw hP hD hS => ?_)
  obtain ⟨Bt_1, Bi_2, Bf_3, Br_4⟩ := u_
  have hP : va_P D vwCl (wdH ad ck Pd Pm Ps Pg Pj Bt_1 Bi_2 Bf_3 Br_4 Rt Rl Rr Ra Wt Wa Wk Wd Wn We Wb Hv) H := hP
  have hD : va_D A (wdH ad ck Pd Pm Ps Pg Pj Bt_1 Bi_2 Bf_3 Br_4 Rt Rl Rr Ra Wt Wa Wk Wd Wn We Wb Hv) := hD
  refine gq_calli (wsN := fun _ => (wdH ad ck Pd Pm Ps Pg Pj Bt_1 Bi_2 Bf_3 Br_4 Rt Rl Rr Ra Wt Wa Wk Wd Wn We Wb Hv)) (va_runV (As := []) (rest := []) ⟨hx, hb, hml, hown, hts⟩ (c_X3_count l D ad ck H.size Bt_1 Bi_2 Bf_3 Br_4  _ hw) (cwV 0 hts gX4_ways_X3_count rfl rfl rfl (by decide +kernel) ⟨Nat.le_of_ble_eq_true rfl, Nat.le_of_ble_eq_true rfl⟩) (gq_preV hK [2, 3] rfl hP hD [4, 5, 6] rfl rfl hnw 3 0 rfl rfl) rfl rfl hl.1 rfl (lv_room (Nat.le_of_ble_eq_true rfl)) dX4_ways_4 ⟨Nat.zero_le _, Nat.zero_le _⟩) hP hD hS hA [4, 5, 6] [0, 1, 2, 3, 7, 8, 9, 10, 11, 12, 13, 14, 15] rfl rfl rfl (by decide) [0, 1, 2, 3, 13, 14, 15, 4, 5, 6, 7, 8, 9, 10, 11, 12] rfl (fun _ => rfl) (fun r5 _ H locs hw hP hD hS => ?_)
  exact hz r5 (Bt_1, Bi_2, Bf_3, Br_4) _ _ _ _ dX4_ways_7 hw hP hD hS

def wp_X4_way (p1 : Int32) (p2 : Int32) (Pd : Nat → Int32) (Ps : Int32) (Pg : Int32) (Pj : Int32) (Bt : Nat → Int32) (Bi : Nat → Int32) (Bf : Int32) (Br : Int32) (post : Int32 → (Nat → Int32) → (Nat → Int32) → Int32 → Int32 → Prop) : Prop :=
  wp_X4_bookNow Pd Ps Pg Pj Bt Bi Bf Br (fun (Bt_1 : Nat → Int32) (Bi_2 : Nat → Int32) (Bf_3 : Int32) (Br_4 : Int32) => (if p1 < 0 then post (-1) Bt_1 Bi_2 Bf_3 Br_4 else wp_X3_count Bf_3 (fun (r6 : Int32) => (if p1 < r6 then wp_X3_trail p1 Bt_1 Bf_3 (fun (r8 : Int32) => wp_X4_placeOn r8 p2 (fun (r9 : Int32) => post r9 Bt_1 Bi_2 Bf_3 Br_4)) else post (-1) Bt_1 Bi_2 Bf_3 Br_4))))

set_option maxHeartbeats 4000000 in
set_option maxRecDepth 100000 in
theorem c_X4_way (l : Launch) (D : va_G) (ad : Nat → Nat) (ck : Nat → ClassId) (sz : Nat) (Pd : Nat → Int32) (Pm : Nat → Int32) (Ps : Int32) (Pg : Int32) (Pj : Int32) (Bt : Nat → Int32) (Bi : Nat → Int32) (Bf : Int32) (Br : Int32) (Rt : Nat → Int32) (Rl : Nat → Int32) (Rr : Nat → Int32) (Ra : Nat → Int32) (Wt : Nat → Int32) (Wa : Nat → Int32) (Wk : Nat → Int32) (Wd : Int32) (Wn : Int32) (We : Int32) (Wb : Int32) (Hv : Int32) (p1 : Int32) (p2 : Int32) (post : Int32 → (Nat → Int32) → (Nat → Int32) → Int32 → Int32 → Prop) (hw : wp_X4_way p1 p2 Pd Ps Pg Pj Bt Bi Bf Br post) : Met l yX4_way wsX4_way { frames := 11, cells := 0, slots := 0, locals := 280 } (va_Pc [.ref (ad 0), .int p1, .int p2] (gq_pre D (tyH ck) (wdH ad ck Pd Pm Ps Pg Pj Bt Bi Bf Br Rt Rl Rr Ra Wt Wa Wk Wd Wn We Wb Hv) sz)) (va_Qi (fun (r : Int32) (u : (Nat → Int32) × (Nat → Int32) × Int32 × Int32) => post r u.1 u.2.1 u.2.2.1 u.2.2.2) (gq_at D (va_A (wdH ad ck Pd Pm Ps Pg Pj Bt Bi Bf Br Rt Rl Rr Ra Wt Wa Wk Wd Wn We Wb Hv) sz) (fun (u : (Nat → Int32) × (Nat → Int32) × Int32 × Int32) => (wdH ad ck Pd Pm Ps Pg Pj u.1 u.2.1 u.2.2.1 u.2.2.2 Rt Rl Rr Ra Wt Wa Wk Wd Wn We Wb Hv))) (va_A (wdH ad ck Pd Pm Ps Pg Pj Bt Bi Bf Br Rt Rl Rr Ra Wt Wa Wk Wd Wn We Wb Hv) sz)) 0 0 (va_A (wdH ad ck Pd Pm Ps Pg Pj Bt Bi Bf Br Rt Rl Rr Ra Wt Wa Wk Wd Wn We Wb Hv) sz) := by
  refine gq_meti (cc := cX4_way) (maxL := 4) (lv := [(0, .ref (ad 0)), (1, .int p1), (2, .int p2)]) (by decide) rfl (Nat.le_of_ble_eq_true rfl) rfl ?_
  intro p e s m below meth c A Q ls H locs hx hb hml hown hts hnw hA hK hP hD hS hl hz
  refine lv_aload_n hx hb dX4_way_0 rfl (lv_at hl 0 rfl) ?_
  refine gq_callr (wsN := fun u => (wdH ad ck Pd Pm Ps Pg Pj u.1 u.2.1 u.2.2.1 u.2.2.2 Rt Rl Rr Ra Wt Wa Wk Wd Wn We Wb Hv)) (va_runV (As := []) (rest := []) ⟨hx, hb, hml, hown, hts⟩ (c_X4_bookNow l D ad ck H.size Pd Pm Ps Pg Pj Bt Bi Bf Br Rt Rl Rr Ra Wt Wa Wk Wd Wn We Wb Hv  _ hw) (cwV 0 hts gX4_way_X4_bookNow rfl rfl rfl (by decide +kernel) ⟨Nat.le_of_ble_eq_true rfl, Nat.le_of_ble_eq_true rfl⟩) (gq_preV hK [0, 1, 2, 3, 4, 5, 6, 7, 8, 9, 10] rfl hP hD [0, 1, 2, 3, 4, 5, 6, 7, 8, 9, 10, 11, 12, 13, 14, 15] rfl rfl hnw 4 0 rfl rfl) rfl rfl hl.1 rfl (lv_room (Nat.le_of_ble_eq_true rfl)) dX4_way_1 ⟨Nat.zero_le _, Nat.zero_le _⟩) hP hD hS hA [0, 1, 2, 3, 4, 5, 6, 7, 8, 9, 10, 11, 12, 13, 14, 15] [] rfl rfl rfl (by decide) [0, 1, 2, 3, 4, 5, 6, 7, 8, 9, 10, 11, 12, 13, 14, 15] rfl (fun _ => rfl) (fun u_ H locs hw hP hD hS => ?_)
  obtain ⟨Bt_1, Bi_2, Bf_3, Br_4⟩ := u_
  have hP : va_P D vwCl (wdH ad ck Pd Pm Ps Pg Pj Bt_1 Bi_2 Bf_3 Br_4 Rt Rl Rr Ra Wt Wa Wk Wd Wn We Wb Hv) H := hP
  have hD : va_D A (wdH ad ck Pd Pm Ps Pg Pj Bt_1 Bi_2 Bf_3 Br_4 Rt Rl Rr Ra Wt Wa Wk Wd Wn We Wb Hv) := hD
  refine lv_astore_n (lv' := [(3, .ref (ad 4)), (0, .ref (ad 0)), (1, .int p1), (2, .int p2)]) hx hb dX4_way_4 rfl hl (by decide) rfl (fun ls hl => ?_)
  refine lv_iload_n hx hb dX4_way_5 rfl (lv_at hl 2 rfl) ?_
  refine lv_if_lt (tgt := 17) hx hb dX4_way_6 (by decide) (fun c5 => ?_) (fun c5 => ?_)
  · have hw := gq_t c5 hw
    refine lv_iconst (v := (-1)) hx hb dX4_way_17 (by decide) ?_
    exact hz (-1) (Bt_1, Bi_2, Bf_3, Br_4) _ _ _ _ dX4_way_18 hw hP hD hS
  · have hw := gq_f c5 hw
    refine lv_iload_n hx hb dX4_way_9 rfl (lv_at hl 2 rfl) ?_
    refine lv_aload_n hx hb dX4_way_10 rfl (lv_at hl 0 rfl) ?_
    refine gq_calli (wsN := fun _ => (wdH ad ck Pd Pm Ps Pg Pj Bt_1 Bi_2 Bf_3 Br_4 Rt Rl Rr Ra Wt Wa Wk Wd Wn We Wb Hv)) (va_runV (As := []) (rest := [.int p1]) ⟨hx, hb, hml, hown, hts⟩ (c_X3_count l D ad ck H.size Bt_1 Bi_2 Bf_3 Br_4  _ hw) (cwV 0 hts gX4_way_X3_count rfl rfl rfl (by decide +kernel) ⟨Nat.le_of_ble_eq_true rfl, Nat.le_of_ble_eq_true rfl⟩) (gq_preV hK [2, 3] rfl hP hD [4, 5, 6] rfl rfl hnw 3 0 rfl rfl) rfl rfl hl.1 rfl (lv_room (Nat.le_of_ble_eq_true rfl)) dX4_way_11 ⟨Nat.zero_le _, Nat.zero_le _⟩) hP hD hS hA [4, 5, 6] [0, 1, 2, 3, 7, 8, 9, 10, 11, 12, 13, 14, 15] rfl rfl rfl (by decide) [0, 1, 2, 3, 13, 14, 15, 4, 5, 6, 7, 8, 9, 10, 11, 12] rfl (fun _ => rfl) (fun r6 _ H locs hw hP hD hS => ?_)
    refine lv_icmp_lt (tgt := 19) hx hb dX4_way_14 (by decide) (fun c7 => ?_) (fun c7 => ?_)
    · have hw := gq_t c7 hw
      refine lv_aload_n hx hb dX4_way_19 rfl (lv_at hl 0 rfl) ?_
      refine lv_iload_n hx hb dX4_way_20 rfl (lv_at hl 2 rfl) ?_
      refine gq_calli (wsN := fun _ => (wdH ad ck Pd Pm Ps Pg Pj Bt_1 Bi_2 Bf_3 Br_4 Rt Rl Rr Ra Wt Wa Wk Wd Wn We Wb Hv)) (va_runV (As := [.int p1]) (rest := []) ⟨hx, hb, hml, hown, hts⟩ (c_X3_trail l D ad ck H.size Bt_1 Bi_2 Bf_3 Br_4 p1 _ hw) (cwV 1 hts gX4_way_X3_trail rfl rfl rfl (by decide +kernel) ⟨Nat.le_of_ble_eq_true rfl, Nat.le_of_ble_eq_true rfl⟩) (gq_preV hK [2, 3] rfl hP hD [4, 5, 6] rfl rfl hnw 3 0 rfl rfl) rfl rfl hl.1 rfl (lv_room (Nat.le_of_ble_eq_true rfl)) dX4_way_21 ⟨Nat.zero_le _, Nat.zero_le _⟩) hP hD hS hA [4, 5, 6] [0, 1, 2, 3, 7, 8, 9, 10, 11, 12, 13, 14, 15] rfl rfl rfl (by decide) [0, 1, 2, 3, 13, 14, 15, 4, 5, 6, 7, 8, 9, 10, 11, 12] rfl (fun _ => rfl) (fun r8 _ H locs hw hP hD hS => ?_)
      refine lv_iload_n hx hb dX4_way_24 rfl (lv_at hl 3 rfl) ?_
      refine gq_calli (wsN := fun _ => (wdH ad ck Pd Pm Ps Pg Pj Bt_1 Bi_2 Bf_3 Br_4 Rt Rl Rr Ra Wt Wa Wk Wd Wn We Wb Hv)) (va_runS (As := [.int r8, .int p2]) (rest := []) ⟨hx, hb, hml, hown, hts⟩ (c_X4_placeOn l D H.size r8 p2 _ hw) (va_cwS 2 hts gX4_way_X4_placeOn rfl rfl rfl (by decide +kernel) ⟨Nat.le_of_ble_eq_true rfl, Nat.le_of_ble_eq_true rfl⟩) (gq_preS hK [] rfl hP hD [] rfl rfl hnw) rfl rfl hl.1 rfl (lv_room (Nat.le_of_ble_eq_true rfl)) dX4_way_25 ⟨Nat.zero_le _, Nat.zero_le _⟩) hP hD hS hA [] [0, 1, 2, 3, 4, 5, 6, 7, 8, 9, 10, 11, 12, 13, 14, 15] rfl rfl rfl (by decide) [0, 1, 2, 3, 4, 5, 6, 7, 8, 9, 10, 11, 12, 13, 14, 15] rfl (fun _ => rfl) (fun r9 _ H locs hw hP hD hS => ?_)
      exact hz r9 (Bt_1, Bi_2, Bf_3, Br_4) _ _ _ _ dX4_way_28 hw hP hD hS
    · have hw := gq_f c7 hw
      refine lv_iconst (v := (-1)) hx hb dX4_way_17 (by decide) ?_
      exact hz (-1) (Bt_1, Bi_2, Bf_3, Br_4) _ _ _ _ dX4_way_18 hw hP hD hS

def wp_X4_touched (p1 : Int32) (Pd : Nat → Int32) (Ps : Int32) (Pg : Int32) (Pj : Int32) (Bt : Nat → Int32) (Bi : Nat → Int32) (Bf : Int32) (Br : Int32) (post : Int32 → (Nat → Int32) → (Nat → Int32) → Int32 → Int32 → Prop) : Prop :=
  wp_X4_bookNow Pd Ps Pg Pj Bt Bi Bf Br (fun (Bt_1 : Nat → Int32) (Bi_2 : Nat → Int32) (Bf_3 : Int32) (Br_4 : Int32) => wp_X0_hasSet p1 Ps (fun (r5 : Int32) => (if r5 = 0 then post (-1) Bt_1 Bi_2 Bf_3 Br_4 else wp_X3_count Bf_3 (fun (r7 : Int32) => (if r7 = (-1) then post (-1) Bt_1 Bi_2 Bf_3 Br_4 else wp_X3_countTouchedBy p1 Bi_2 Bf_3 (fun (r9 : Int32) => post r9 Bt_1 Bi_2 Bf_3 Br_4))))))

theorem iX4_touched_X4 : ∀ w ∈ wsX40, w ∈ wsX4_touched := by decide +kernel
set_option maxHeartbeats 4000000 in
set_option maxRecDepth 100000 in
theorem c_X4_touched (l : Launch) (D : va_G) (ad : Nat → Nat) (ck : Nat → ClassId) (sz : Nat) (Pd : Nat → Int32) (Pm : Nat → Int32) (Ps : Int32) (Pg : Int32) (Pj : Int32) (Bt : Nat → Int32) (Bi : Nat → Int32) (Bf : Int32) (Br : Int32) (Rt : Nat → Int32) (Rl : Nat → Int32) (Rr : Nat → Int32) (Ra : Nat → Int32) (Wt : Nat → Int32) (Wa : Nat → Int32) (Wk : Nat → Int32) (Wd : Int32) (Wn : Int32) (We : Int32) (Wb : Int32) (Hv : Int32) (p1 : Int32) (post : Int32 → (Nat → Int32) → (Nat → Int32) → Int32 → Int32 → Prop) (hw : wp_X4_touched p1 Pd Ps Pg Pj Bt Bi Bf Br post) : Met l yX4_touched wsX4_touched { frames := 11, cells := 0, slots := 0, locals := 280 } (va_Pc [.ref (ad 0), .int p1] (gq_pre D (tyH ck) (wdH ad ck Pd Pm Ps Pg Pj Bt Bi Bf Br Rt Rl Rr Ra Wt Wa Wk Wd Wn We Wb Hv) sz)) (va_Qi (fun (r : Int32) (u : (Nat → Int32) × (Nat → Int32) × Int32 × Int32) => post r u.1 u.2.1 u.2.2.1 u.2.2.2) (gq_at D (va_A (wdH ad ck Pd Pm Ps Pg Pj Bt Bi Bf Br Rt Rl Rr Ra Wt Wa Wk Wd Wn We Wb Hv) sz) (fun (u : (Nat → Int32) × (Nat → Int32) × Int32 × Int32) => (wdH ad ck Pd Pm Ps Pg Pj u.1 u.2.1 u.2.2.1 u.2.2.2 Rt Rl Rr Ra Wt Wa Wk Wd Wn We Wb Hv))) (va_A (wdH ad ck Pd Pm Ps Pg Pj Bt Bi Bf Br Rt Rl Rr Ra Wt Wa Wk Wd Wn We Wb Hv) sz)) 0 0 (va_A (wdH ad ck Pd Pm Ps Pg Pj Bt Bi Bf Br Rt Rl Rr Ra Wt Wa Wk Wd Wn We Wb Hv) sz) := by
  refine gq_meti (cc := cX4_touched) (maxL := 3) (lv := [(0, .ref (ad 0)), (1, .int p1)]) (by decide) rfl (Nat.le_of_ble_eq_true rfl) rfl ?_
  intro p e s m below meth c A Q ls H locs hx hb hml hown hts hnw hA hK hP hD hS hl hz
  refine lv_aload_n hx hb dX4_touched_0 rfl (lv_at hl 0 rfl) ?_
  refine gq_callr (wsN := fun u => (wdH ad ck Pd Pm Ps Pg Pj u.1 u.2.1 u.2.2.1 u.2.2.2 Rt Rl Rr Ra Wt Wa Wk Wd Wn We Wb Hv)) (va_runV (As := []) (rest := []) ⟨hx, hb, hml, hown, hts⟩ (c_X4_bookNow l D ad ck H.size Pd Pm Ps Pg Pj Bt Bi Bf Br Rt Rl Rr Ra Wt Wa Wk Wd Wn We Wb Hv  _ hw) (cwV 0 hts gX4_touched_X4_bookNow rfl rfl rfl (by decide +kernel) ⟨Nat.le_of_ble_eq_true rfl, Nat.le_of_ble_eq_true rfl⟩) (gq_preV hK [0, 1, 2, 3, 4, 5, 6, 7, 8, 9, 10] rfl hP hD [0, 1, 2, 3, 4, 5, 6, 7, 8, 9, 10, 11, 12, 13, 14, 15] rfl rfl hnw 4 0 rfl rfl) rfl rfl hl.1 rfl (lv_room (Nat.le_of_ble_eq_true rfl)) dX4_touched_1 ⟨Nat.zero_le _, Nat.zero_le _⟩) hP hD hS hA [0, 1, 2, 3, 4, 5, 6, 7, 8, 9, 10, 11, 12, 13, 14, 15] [] rfl rfl rfl (by decide) [0, 1, 2, 3, 4, 5, 6, 7, 8, 9, 10, 11, 12, 13, 14, 15] rfl (fun _ => rfl) (fun u_ H locs hw hP hD hS => ?_)
  obtain ⟨Bt_1, Bi_2, Bf_3, Br_4⟩ := u_
  have hP : va_P D vwCl (wdH ad ck Pd Pm Ps Pg Pj Bt_1 Bi_2 Bf_3 Br_4 Rt Rl Rr Ra Wt Wa Wk Wd Wn We Wb Hv) H := hP
  have hD : va_D A (wdH ad ck Pd Pm Ps Pg Pj Bt_1 Bi_2 Bf_3 Br_4 Rt Rl Rr Ra Wt Wa Wk Wd Wn We Wb Hv) := hD
  refine lv_astore_n (lv' := [(2, .ref (ad 4)), (0, .ref (ad 0)), (1, .int p1)]) hx hb dX4_touched_4 rfl hl (by decide) rfl (fun ls hl => ?_)
  refine lv_aload_n hx hb dX4_touched_5 rfl (lv_at hl 1 rfl) ?_
  refine va_get (D := D) (ci := 4) (v := .ref (ad 1)) (C := RX4) (T := TX4) (N := 5) hx hb hts iX4_touched_X4 hown hK hP 0 rfl rfl 0 (by decide) (hts (.fieldLink RX4 12 "DecoyHouse" "plan" "LDecoyHouse$Plan;") (by decide +kernel)) (fun _ h9 => h9) rfl dX4_touched_6 ?_
  refine lv_iload_n hx hb dX4_touched_9 rfl (lv_at hl 2 rfl) ?_
  refine gq_calli (wsN := fun _ => (wdH ad ck Pd Pm Ps Pg Pj Bt_1 Bi_2 Bf_3 Br_4 Rt Rl Rr Ra Wt Wa Wk Wd Wn We Wb Hv)) (va_runV (As := [.int p1]) (rest := []) ⟨hx, hb, hml, hown, hts⟩ (c_X0_hasSet l D ad ck H.size Pd Pm Ps Pg Pj p1 _ hw) (cwV 1 hts gX4_touched_X0_hasSet rfl rfl rfl (by decide +kernel) ⟨Nat.le_of_ble_eq_true rfl, Nat.le_of_ble_eq_true rfl⟩) (gq_preV hK [0, 1] rfl hP hD [1, 2, 3] rfl rfl hnw 0 0 rfl rfl) rfl rfl hl.1 rfl (lv_room (Nat.le_of_ble_eq_true rfl)) dX4_touched_10 ⟨Nat.zero_le _, Nat.zero_le _⟩) hP hD hS hA [1, 2, 3] [0, 4, 5, 6, 7, 8, 9, 10, 11, 12, 13, 14, 15] rfl rfl rfl (by decide) [0, 13, 14, 15, 1, 2, 3, 4, 5, 6, 7, 8, 9, 10, 11, 12] rfl (fun _ => rfl) (fun r5 _ H locs hw hP hD hS => ?_)
  refine lv_if_eq (tgt := 24) hx hb dX4_touched_13 (by decide) (fun c6 => ?_) (fun c6 => ?_)
  · have hw := gq_t c6 hw
    refine lv_iconst (v := (-1)) hx hb dX4_touched_24 (by decide) ?_
    exact hz (-1) (Bt_1, Bi_2, Bf_3, Br_4) _ _ _ _ dX4_touched_25 hw hP hD hS
  · have hw := gq_f c6 hw
    refine lv_aload_n hx hb dX4_touched_16 rfl (lv_at hl 0 rfl) ?_
    refine gq_calli (wsN := fun _ => (wdH ad ck Pd Pm Ps Pg Pj Bt_1 Bi_2 Bf_3 Br_4 Rt Rl Rr Ra Wt Wa Wk Wd Wn We Wb Hv)) (va_runV (As := []) (rest := []) ⟨hx, hb, hml, hown, hts⟩ (c_X3_count l D ad ck H.size Bt_1 Bi_2 Bf_3 Br_4  _ hw) (cwV 0 hts gX4_touched_X3_count rfl rfl rfl (by decide +kernel) ⟨Nat.le_of_ble_eq_true rfl, Nat.le_of_ble_eq_true rfl⟩) (gq_preV hK [2, 3] rfl hP hD [4, 5, 6] rfl rfl hnw 3 0 rfl rfl) rfl rfl hl.1 rfl (lv_room (Nat.le_of_ble_eq_true rfl)) dX4_touched_17 ⟨Nat.zero_le _, Nat.zero_le _⟩) hP hD hS hA [4, 5, 6] [0, 1, 2, 3, 7, 8, 9, 10, 11, 12, 13, 14, 15] rfl rfl rfl (by decide) [0, 1, 2, 3, 13, 14, 15, 4, 5, 6, 7, 8, 9, 10, 11, 12] rfl (fun _ => rfl) (fun r7 _ H locs hw hP hD hS => ?_)
    refine lv_iconst (v := (-1)) hx hb dX4_touched_20 (by decide) ?_
    refine lv_icmp_ne (tgt := 26) hx hb dX4_touched_21 (by decide) (fun c8 => ?_) (fun c8 => ?_)
    · have hw := gq_f c8 hw
      refine lv_aload_n hx hb dX4_touched_26 rfl (lv_at hl 0 rfl) ?_
      refine lv_iload_n hx hb dX4_touched_27 rfl (lv_at hl 2 rfl) ?_
      refine gq_calli (wsN := fun _ => (wdH ad ck Pd Pm Ps Pg Pj Bt_1 Bi_2 Bf_3 Br_4 Rt Rl Rr Ra Wt Wa Wk Wd Wn We Wb Hv)) (va_runV (As := [.int p1]) (rest := []) ⟨hx, hb, hml, hown, hts⟩ (c_X3_countTouchedBy l D ad ck H.size Bt_1 Bi_2 Bf_3 Br_4 p1 _ hw) (cwV 1 hts gX4_touched_X3_countTouchedBy rfl rfl rfl (by decide +kernel) ⟨Nat.le_of_ble_eq_true rfl, Nat.le_of_ble_eq_true rfl⟩) (gq_preV hK [2, 3] rfl hP hD [4, 5, 6] rfl rfl hnw 3 0 rfl rfl) rfl rfl hl.1 rfl (lv_room (Nat.le_of_ble_eq_true rfl)) dX4_touched_28 ⟨Nat.zero_le _, Nat.zero_le _⟩) hP hD hS hA [4, 5, 6] [0, 1, 2, 3, 7, 8, 9, 10, 11, 12, 13, 14, 15] rfl rfl rfl (by decide) [0, 1, 2, 3, 13, 14, 15, 4, 5, 6, 7, 8, 9, 10, 11, 12] rfl (fun _ => rfl) (fun r9 _ H locs hw hP hD hS => ?_)
      exact hz r9 (Bt_1, Bi_2, Bf_3, Br_4) _ _ _ _ dX4_touched_31 hw hP hD hS
    · have hw := gq_t c8 hw
      refine lv_iconst (v := (-1)) hx hb dX4_touched_24 (by decide) ?_
      exact hz (-1) (Bt_1, Bi_2, Bf_3, Br_4) _ _ _ _ dX4_touched_25 hw hP hD hS

def wp_X4_honest (p1 : Int32) (Ps : Int32) (Ra : Nat → Int32) (post : Int32 → Prop) : Prop :=
  wp_X0_hasSet p1 Ps (fun (r1 : Int32) => (if r1 = 0 then post (-1) else wp_X1_touchesOf p1 Ra (fun (r3 : Int32) => post r3)))

theorem iX4_honest_X4 : ∀ w ∈ wsX40, w ∈ wsX4_honest := by decide +kernel
set_option maxHeartbeats 4000000 in
set_option maxRecDepth 100000 in
theorem c_X4_honest (l : Launch) (D : va_G) (ad : Nat → Nat) (ck : Nat → ClassId) (sz : Nat) (Pd : Nat → Int32) (Pm : Nat → Int32) (Ps : Int32) (Pg : Int32) (Pj : Int32) (Bt : Nat → Int32) (Bi : Nat → Int32) (Bf : Int32) (Br : Int32) (Rt : Nat → Int32) (Rl : Nat → Int32) (Rr : Nat → Int32) (Ra : Nat → Int32) (Wt : Nat → Int32) (Wa : Nat → Int32) (Wk : Nat → Int32) (Wd : Int32) (Wn : Int32) (We : Int32) (Wb : Int32) (Hv : Int32) (p1 : Int32) (post : Int32 → Prop) (hw : wp_X4_honest p1 Ps Ra post) : Met l yX4_honest wsX4_honest { frames := 2, cells := 0, slots := 0, locals := 44 } (va_Pc [.ref (ad 0), .int p1] (gq_pre D (tyH ck) (wdH ad ck Pd Pm Ps Pg Pj Bt Bi Bf Br Rt Rl Rr Ra Wt Wa Wk Wd Wn We Wb Hv) sz)) (va_Qi (fun (r : Int32) (_ : Unit) => post r ) (gq_at D (va_A (wdH ad ck Pd Pm Ps Pg Pj Bt Bi Bf Br Rt Rl Rr Ra Wt Wa Wk Wd Wn We Wb Hv) sz) (fun (_ : Unit) => (wdH ad ck Pd Pm Ps Pg Pj Bt Bi Bf Br Rt Rl Rr Ra Wt Wa Wk Wd Wn We Wb Hv))) (va_A (wdH ad ck Pd Pm Ps Pg Pj Bt Bi Bf Br Rt Rl Rr Ra Wt Wa Wk Wd Wn We Wb Hv) sz)) 0 0 (va_A (wdH ad ck Pd Pm Ps Pg Pj Bt Bi Bf Br Rt Rl Rr Ra Wt Wa Wk Wd Wn We Wb Hv) sz) := by
  refine gq_meti (cc := cX4_honest) (maxL := 2) (lv := [(0, .ref (ad 0)), (1, .int p1)]) (by decide) rfl (Nat.le_of_ble_eq_true rfl) rfl ?_
  intro p e s m below meth c A Q ls H locs hx hb hml hown hts hnw hA hK hP hD hS hl hz
  refine lv_aload_n hx hb dX4_honest_0 rfl (lv_at hl 0 rfl) ?_
  refine va_get (D := D) (ci := 4) (v := .ref (ad 1)) (C := RX4) (T := TX4) (N := 5) hx hb hts iX4_honest_X4 hown hK hP 0 rfl rfl 0 (by decide) (hts (.fieldLink RX4 12 "DecoyHouse" "plan" "LDecoyHouse$Plan;") (by decide +kernel)) (fun _ h9 => h9) rfl dX4_honest_1 ?_
  refine lv_iload_n hx hb dX4_honest_4 rfl (lv_at hl 1 rfl) ?_
  refine gq_calli (wsN := fun _ => (wdH ad ck Pd Pm Ps Pg Pj Bt Bi Bf Br Rt Rl Rr Ra Wt Wa Wk Wd Wn We Wb Hv)) (va_runV (As := [.int p1]) (rest := []) ⟨hx, hb, hml, hown, hts⟩ (c_X0_hasSet l D ad ck H.size Pd Pm Ps Pg Pj p1 _ hw) (cwV 1 hts gX4_honest_X0_hasSet rfl rfl rfl (by decide +kernel) ⟨Nat.le_of_ble_eq_true rfl, Nat.le_of_ble_eq_true rfl⟩) (gq_preV hK [0, 1] rfl hP hD [1, 2, 3] rfl rfl hnw 0 0 rfl rfl) rfl rfl hl.1 rfl (lv_room (Nat.le_of_ble_eq_true rfl)) dX4_honest_5 ⟨Nat.zero_le _, Nat.zero_le _⟩) hP hD hS hA [1, 2, 3] [0, 4, 5, 6, 7, 8, 9, 10, 11, 12, 13, 14, 15] rfl rfl rfl (by decide) [0, 13, 14, 15, 1, 2, 3, 4, 5, 6, 7, 8, 9, 10, 11, 12] rfl (fun _ => rfl) (fun r1 _ H locs hw hP hD hS => ?_)
  refine lv_if_eq (tgt := 22) hx hb dX4_honest_8 (by decide) (fun c2 => ?_) (fun c2 => ?_)
  · have hw := gq_t c2 hw
    refine lv_iconst (v := (-1)) hx hb dX4_honest_22 (by decide) ?_
    exact hz (-1) () _ _ _ _ dX4_honest_23 hw hP hD hS
  · have hw := gq_f c2 hw
    refine lv_aload_n hx hb dX4_honest_11 rfl (lv_at hl 0 rfl) ?_
    refine va_get (D := D) (ci := 4) (v := .ref (ad 7)) (C := RX4) (T := TX4) (N := 5) hx hb hts iX4_honest_X4 hown hK hP 0 rfl rfl 2 (by decide) (hts (.fieldLink RX4 26 "DecoyHouse" "rounds" "LDecoyHouse$Rounds;") (by decide +kernel)) (fun _ h9 => h9) rfl dX4_honest_12 ?_
    refine lv_iload_n hx hb dX4_honest_15 rfl (lv_at hl 1 rfl) ?_
    refine gq_calli (wsN := fun _ => (wdH ad ck Pd Pm Ps Pg Pj Bt Bi Bf Br Rt Rl Rr Ra Wt Wa Wk Wd Wn We Wb Hv)) (va_runV (As := [.int p1]) (rest := []) ⟨hx, hb, hml, hown, hts⟩ (c_X1_touchesOf l D ad ck H.size Rt Rl Rr Ra p1 _ hw) (cwV 1 hts gX4_honest_X1_touchesOf rfl rfl rfl (by decide +kernel) ⟨Nat.le_of_ble_eq_true rfl, Nat.le_of_ble_eq_true rfl⟩) (gq_preV hK [4, 5, 6, 7] rfl hP hD [7, 8, 9, 10, 11] rfl rfl hnw 1 0 rfl rfl) rfl rfl hl.1 rfl (lv_room (Nat.le_of_ble_eq_true rfl)) dX4_honest_16 ⟨Nat.zero_le _, Nat.zero_le _⟩) hP hD hS hA [7, 8, 9, 10, 11] [0, 1, 2, 3, 4, 5, 6, 12, 13, 14, 15] rfl rfl rfl (by decide) [0, 1, 2, 3, 4, 5, 6, 11, 12, 13, 14, 15, 7, 8, 9, 10] rfl (fun _ => rfl) (fun r3 _ H locs hw hP hD hS => ?_)
    refine lv_goto (tgt := 23) hx hb dX4_honest_19 (by decide) ?_
    exact hz r3 () _ _ _ _ dX4_honest_23 hw hP hD hS

