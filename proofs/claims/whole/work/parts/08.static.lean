def wp_X4_has (p1 : Int32) (p2 : Int32)  (post : Int32 → Prop) : Prop :=
  (if p2 < 0 then post 0 else (if 9 ≤ p2 then post 0 else (if ((gq_ushr p1 p2) &&& 1) = 1 then post 1 else post 0)))

set_option maxHeartbeats 4000000 in
set_option maxRecDepth 100000 in
theorem c_X4_has (l : Launch) (D : va_G) (sz : Nat)  (p1 : Int32) (p2 : Int32) (post : Int32 → Prop) (hw : wp_X4_has p1 p2 post) : Met l yX4_has wsX4_has { frames := 0, cells := 0, slots := 0, locals := 0 } (va_Pc [.int p1, .int p2] (gq_pre D ([] : List (ClassId × FieldType)) ([] : va_W) sz)) (va_Qi (fun (r : Int32) (_ : Unit) => post r ) (gq_at D (va_A ([] : va_W) sz) (fun (_ : Unit) => ([] : va_W))) (va_A ([] : va_W) sz)) 0 0 (va_A ([] : va_W) sz) := by
  refine gq_metz (cc := cX4_has) (maxL := 2) (lv := [(0, .int p1), (1, .int p2)]) (by decide) rfl (Nat.le_of_ble_eq_true rfl) rfl ?_
  intro p e s m below meth c A Q ls H locs hx hb hml hown hts hnw hA hK hP hD hS hl hz
  refine lv_iload_n hx hb dX4_has_0 rfl (lv_at hl 1 rfl) ?_
  refine lv_if_lt (tgt := 23) hx hb dX4_has_1 (by decide) (fun c1 => ?_) (fun c1 => ?_)
  · have hw := gq_t c1 hw
    refine lv_iconst (v := 0) hx hb dX4_has_23 (by decide) ?_
    exact hz 0 () _ _ _ _ dX4_has_24 gq_zb0 hw hP hD hS
  · have hw := gq_f c1 hw
    refine lv_iload_n hx hb dX4_has_4 rfl (lv_at hl 1 rfl) ?_
    refine lv_bipush (v := 9) hx hb dX4_has_5 (by decide) ?_
    refine lv_icmp_ge (tgt := 23) hx hb dX4_has_7 (by decide) (fun c2 => ?_) (fun c2 => ?_)
    · have hw := gq_t c2 hw
      refine lv_iconst (v := 0) hx hb dX4_has_23 (by decide) ?_
      exact hz 0 () _ _ _ _ dX4_has_24 gq_zb0 hw hP hD hS
    · have hw := gq_f c2 hw
      refine lv_iload_n hx hb dX4_has_10 rfl (lv_at hl 0 rfl) ?_
      refine lv_iload_n hx hb dX4_has_11 rfl (lv_at hl 1 rfl) ?_
      refine lv_iushr (v := (gq_ushr p1 p2)) hx hb dX4_has_12 rfl ?_
      refine lv_iconst (v := 1) hx hb dX4_has_13 (by decide) ?_
      refine lv_iand hx hb dX4_has_14 ?_
      refine lv_iconst (v := 1) hx hb dX4_has_15 (by decide) ?_
      refine lv_icmp_ne (tgt := 23) hx hb dX4_has_16 (by decide) (fun c3 => ?_) (fun c3 => ?_)
      · have hw := gq_f c3 hw
        refine lv_iconst (v := 0) hx hb dX4_has_23 (by decide) ?_
        exact hz 0 () _ _ _ _ dX4_has_24 gq_zb0 hw hP hD hS
      · have hw := gq_t c3 hw
        refine lv_iconst (v := 1) hx hb dX4_has_19 (by decide) ?_
        refine lv_goto (tgt := 24) hx hb dX4_has_20 (by decide) ?_
        exact hz 1 () _ _ _ _ dX4_has_24 gq_zb1 hw hP hD hS

def wp_X4_setOf (p1 : Int32)  (post : Int32 → Prop) : Prop :=
  (if p1 < 0 then post 0 else (if 9 ≤ p1 then post 0 else post ((1 : Int32) <<< (p1 &&& 31))))

set_option maxHeartbeats 4000000 in
set_option maxRecDepth 100000 in
theorem c_X4_setOf (l : Launch) (D : va_G) (sz : Nat)  (p1 : Int32) (post : Int32 → Prop) (hw : wp_X4_setOf p1 post) : Met l yX4_setOf wsX4_setOf { frames := 0, cells := 0, slots := 0, locals := 0 } (va_Pc [.int p1] (gq_pre D ([] : List (ClassId × FieldType)) ([] : va_W) sz)) (va_Qi (fun (r : Int32) (_ : Unit) => post r ) (gq_at D (va_A ([] : va_W) sz) (fun (_ : Unit) => ([] : va_W))) (va_A ([] : va_W) sz)) 0 0 (va_A ([] : va_W) sz) := by
  refine gq_meti (cc := cX4_setOf) (maxL := 1) (lv := [(0, .int p1)]) (by decide) rfl (Nat.le_of_ble_eq_true rfl) rfl ?_
  intro p e s m below meth c A Q ls H locs hx hb hml hown hts hnw hA hK hP hD hS hl hz
  refine lv_iload_n hx hb dX4_setOf_0 rfl (lv_at hl 0 rfl) ?_
  refine lv_if_lt (tgt := 16) hx hb dX4_setOf_1 (by decide) (fun c1 => ?_) (fun c1 => ?_)
  · have hw := gq_t c1 hw
    refine lv_iconst (v := 0) hx hb dX4_setOf_16 (by decide) ?_
    exact hz 0 () _ _ _ _ dX4_setOf_17 hw hP hD hS
  · have hw := gq_f c1 hw
    refine lv_iload_n hx hb dX4_setOf_4 rfl (lv_at hl 0 rfl) ?_
    refine lv_bipush (v := 9) hx hb dX4_setOf_5 (by decide) ?_
    refine lv_icmp_ge (tgt := 16) hx hb dX4_setOf_7 (by decide) (fun c2 => ?_) (fun c2 => ?_)
    · have hw := gq_t c2 hw
      refine lv_iconst (v := 0) hx hb dX4_setOf_16 (by decide) ?_
      exact hz 0 () _ _ _ _ dX4_setOf_17 hw hP hD hS
    · have hw := gq_f c2 hw
      refine lv_iconst (v := 1) hx hb dX4_setOf_10 (by decide) ?_
      refine lv_iload_n hx hb dX4_setOf_11 rfl (lv_at hl 0 rfl) ?_
      refine lv_ishl hx hb dX4_setOf_12 ?_
      refine lv_goto (tgt := 17) hx hb dX4_setOf_13 (by decide) ?_
      exact hz ((1 : Int32) <<< (p1 &&& 31)) () _ _ _ _ dX4_setOf_17 hw hP hD hS

def wp_X4_placeInRow (p1 : Int32) (p2 : Int32)  (post : Int32 → Prop) : Prop :=
  post ((gq_ushr p1 (4 * p2)) &&& 15)

set_option maxHeartbeats 4000000 in
set_option maxRecDepth 100000 in
theorem c_X4_placeInRow (l : Launch) (D : va_G) (sz : Nat)  (p1 : Int32) (p2 : Int32) (post : Int32 → Prop) (hw : wp_X4_placeInRow p1 p2 post) : Met l yX4_placeInRow wsX4_placeInRow { frames := 0, cells := 0, slots := 0, locals := 0 } (va_Pc [.int p1, .int p2] (gq_pre D ([] : List (ClassId × FieldType)) ([] : va_W) sz)) (va_Qi (fun (r : Int32) (_ : Unit) => post r ) (gq_at D (va_A ([] : va_W) sz) (fun (_ : Unit) => ([] : va_W))) (va_A ([] : va_W) sz)) 0 0 (va_A ([] : va_W) sz) := by
  refine gq_meti (cc := cX4_placeInRow) (maxL := 2) (lv := [(0, .int p1), (1, .int p2)]) (by decide) rfl (Nat.le_of_ble_eq_true rfl) rfl ?_
  intro p e s m below meth c A Q ls H locs hx hb hml hown hts hnw hA hK hP hD hS hl hz
  refine lv_iload_n hx hb dX4_placeInRow_0 rfl (lv_at hl 0 rfl) ?_
  refine lv_iconst (v := 4) hx hb dX4_placeInRow_1 (by decide) ?_
  refine lv_iload_n hx hb dX4_placeInRow_2 rfl (lv_at hl 1 rfl) ?_
  refine lv_imul hx hb dX4_placeInRow_3 ?_
  refine lv_iushr (v := (gq_ushr p1 (4 * p2))) hx hb dX4_placeInRow_4 rfl ?_
  refine lv_bipush (v := 15) hx hb dX4_placeInRow_5 (by decide) ?_
  refine lv_iand hx hb dX4_placeInRow_7 ?_
  exact hz ((gq_ushr p1 (4 * p2)) &&& 15) () _ _ _ _ dX4_placeInRow_8 hw hP hD hS

def wp_X4_placeOn (p1 : Int32) (p2 : Int32)  (post : Int32 → Prop) : Prop :=
  (if p2 < 0 then post (-1) else (if 6 ≤ p2 then post (-1) else post (((gq_ushr p1 (4 * p2)) &&& 15) - 1)))

set_option maxHeartbeats 4000000 in
set_option maxRecDepth 100000 in
theorem c_X4_placeOn (l : Launch) (D : va_G) (sz : Nat)  (p1 : Int32) (p2 : Int32) (post : Int32 → Prop) (hw : wp_X4_placeOn p1 p2 post) : Met l yX4_placeOn wsX4_placeOn { frames := 0, cells := 0, slots := 0, locals := 0 } (va_Pc [.int p1, .int p2] (gq_pre D ([] : List (ClassId × FieldType)) ([] : va_W) sz)) (va_Qi (fun (r : Int32) (_ : Unit) => post r ) (gq_at D (va_A ([] : va_W) sz) (fun (_ : Unit) => ([] : va_W))) (va_A ([] : va_W) sz)) 0 0 (va_A ([] : va_W) sz) := by
  refine gq_meti (cc := cX4_placeOn) (maxL := 2) (lv := [(0, .int p1), (1, .int p2)]) (by decide) rfl (Nat.le_of_ble_eq_true rfl) rfl ?_
  intro p e s m below meth c A Q ls H locs hx hb hml hown hts hnw hA hK hP hD hS hl hz
  refine lv_iload_n hx hb dX4_placeOn_0 rfl (lv_at hl 1 rfl) ?_
  refine lv_if_lt (tgt := 23) hx hb dX4_placeOn_1 (by decide) (fun c1 => ?_) (fun c1 => ?_)
  · have hw := gq_t c1 hw
    refine lv_iconst (v := (-1)) hx hb dX4_placeOn_23 (by decide) ?_
    exact hz (-1) () _ _ _ _ dX4_placeOn_24 hw hP hD hS
  · have hw := gq_f c1 hw
    refine lv_iload_n hx hb dX4_placeOn_4 rfl (lv_at hl 1 rfl) ?_
    refine lv_bipush (v := 6) hx hb dX4_placeOn_5 (by decide) ?_
    refine lv_icmp_ge (tgt := 23) hx hb dX4_placeOn_7 (by decide) (fun c2 => ?_) (fun c2 => ?_)
    · have hw := gq_t c2 hw
      refine lv_iconst (v := (-1)) hx hb dX4_placeOn_23 (by decide) ?_
      exact hz (-1) () _ _ _ _ dX4_placeOn_24 hw hP hD hS
    · have hw := gq_f c2 hw
      refine lv_iload_n hx hb dX4_placeOn_10 rfl (lv_at hl 0 rfl) ?_
      refine lv_iconst (v := 4) hx hb dX4_placeOn_11 (by decide) ?_
      refine lv_iload_n hx hb dX4_placeOn_12 rfl (lv_at hl 1 rfl) ?_
      refine lv_imul hx hb dX4_placeOn_13 ?_
      refine lv_iushr (v := (gq_ushr p1 (4 * p2))) hx hb dX4_placeOn_14 rfl ?_
      refine lv_bipush (v := 15) hx hb dX4_placeOn_15 (by decide) ?_
      refine lv_iand hx hb dX4_placeOn_17 ?_
      refine lv_iconst (v := 1) hx hb dX4_placeOn_18 (by decide) ?_
      refine lv_isub hx hb dX4_placeOn_19 ?_
      refine lv_goto (tgt := 24) hx hb dX4_placeOn_20 (by decide) ?_
      exact hz (((gq_ushr p1 (4 * p2)) &&& 15) - 1) () _ _ _ _ dX4_placeOn_24 hw hP hD hS

def wp_X4_withPlace (p1 : Int32) (p2 : Int32) (p3 : Int32)  (post : Int32 → Prop) : Prop :=
  (if p2 < 0 then post p1 else (if 6 ≤ p2 then post p1 else post (p1 ||| ((p3 + 1) <<< ((4 * p2) &&& 31)))))

set_option maxHeartbeats 4000000 in
set_option maxRecDepth 100000 in
theorem c_X4_withPlace (l : Launch) (D : va_G) (sz : Nat)  (p1 : Int32) (p2 : Int32) (p3 : Int32) (post : Int32 → Prop) (hw : wp_X4_withPlace p1 p2 p3 post) : Met l yX4_withPlace wsX4_withPlace { frames := 0, cells := 0, slots := 0, locals := 0 } (va_Pc [.int p1, .int p2, .int p3] (gq_pre D ([] : List (ClassId × FieldType)) ([] : va_W) sz)) (va_Qi (fun (r : Int32) (_ : Unit) => post r ) (gq_at D (va_A ([] : va_W) sz) (fun (_ : Unit) => ([] : va_W))) (va_A ([] : va_W) sz)) 0 0 (va_A ([] : va_W) sz) := by
  refine gq_meti (cc := cX4_withPlace) (maxL := 3) (lv := [(0, .int p1), (1, .int p2), (2, .int p3)]) (by decide) rfl (Nat.le_of_ble_eq_true rfl) rfl ?_
  intro p e s m below meth c A Q ls H locs hx hb hml hown hts hnw hA hK hP hD hS hl hz
  refine lv_iload_n hx hb dX4_withPlace_0 rfl (lv_at hl 1 rfl) ?_
  refine lv_if_lt (tgt := 22) hx hb dX4_withPlace_1 (by decide) (fun c1 => ?_) (fun c1 => ?_)
  · have hw := gq_t c1 hw
    refine lv_iload_n hx hb dX4_withPlace_22 rfl (lv_at hl 0 rfl) ?_
    exact hz p1 () _ _ _ _ dX4_withPlace_23 hw hP hD hS
  · have hw := gq_f c1 hw
    refine lv_iload_n hx hb dX4_withPlace_4 rfl (lv_at hl 1 rfl) ?_
    refine lv_bipush (v := 6) hx hb dX4_withPlace_5 (by decide) ?_
    refine lv_icmp_ge (tgt := 22) hx hb dX4_withPlace_7 (by decide) (fun c2 => ?_) (fun c2 => ?_)
    · have hw := gq_t c2 hw
      refine lv_iload_n hx hb dX4_withPlace_22 rfl (lv_at hl 0 rfl) ?_
      exact hz p1 () _ _ _ _ dX4_withPlace_23 hw hP hD hS
    · have hw := gq_f c2 hw
      refine lv_iload_n hx hb dX4_withPlace_10 rfl (lv_at hl 0 rfl) ?_
      refine lv_iload_n hx hb dX4_withPlace_11 rfl (lv_at hl 2 rfl) ?_
      refine lv_iconst (v := 1) hx hb dX4_withPlace_12 (by decide) ?_
      refine lv_iadd hx hb dX4_withPlace_13 ?_
      refine lv_iconst (v := 4) hx hb dX4_withPlace_14 (by decide) ?_
      refine lv_iload_n hx hb dX4_withPlace_15 rfl (lv_at hl 1 rfl) ?_
      refine lv_imul hx hb dX4_withPlace_16 ?_
      refine lv_ishl hx hb dX4_withPlace_17 ?_
      refine lv_ior hx hb dX4_withPlace_18 ?_
      refine lv_goto (tgt := 23) hx hb dX4_withPlace_19 (by decide) ?_
      exact hz (p1 ||| ((p3 + 1) <<< ((4 * p2) &&& 31))) () _ _ _ _ dX4_withPlace_23 hw hP hD hS

def wp_X4_areMarks (p1 : Int32)  (post : Int32 → Prop) : Prop :=
  (if p1 < 0 then post 0 else (if 255 < p1 then post 0 else post 1))

set_option maxHeartbeats 4000000 in
set_option maxRecDepth 100000 in
theorem c_X4_areMarks (l : Launch) (D : va_G) (sz : Nat)  (p1 : Int32) (post : Int32 → Prop) (hw : wp_X4_areMarks p1 post) : Met l yX4_areMarks wsX4_areMarks { frames := 0, cells := 0, slots := 0, locals := 0 } (va_Pc [.int p1] (gq_pre D ([] : List (ClassId × FieldType)) ([] : va_W) sz)) (va_Qi (fun (r : Int32) (_ : Unit) => post r ) (gq_at D (va_A ([] : va_W) sz) (fun (_ : Unit) => ([] : va_W))) (va_A ([] : va_W) sz)) 0 0 (va_A ([] : va_W) sz) := by
  refine gq_metz (cc := cX4_areMarks) (maxL := 1) (lv := [(0, .int p1)]) (by decide) rfl (Nat.le_of_ble_eq_true rfl) rfl ?_
  intro p e s m below meth c A Q ls H locs hx hb hml hown hts hnw hA hK hP hD hS hl hz
  refine lv_iload_n hx hb dX4_areMarks_0 rfl (lv_at hl 0 rfl) ?_
  refine lv_if_lt (tgt := 15) hx hb dX4_areMarks_1 (by decide) (fun c1 => ?_) (fun c1 => ?_)
  · have hw := gq_t c1 hw
    refine lv_iconst (v := 0) hx hb dX4_areMarks_15 (by decide) ?_
    exact hz 0 () _ _ _ _ dX4_areMarks_16 gq_zb0 hw hP hD hS
  · have hw := gq_f c1 hw
    refine lv_iload_n hx hb dX4_areMarks_4 rfl (lv_at hl 0 rfl) ?_
    refine lv_sipush (v := 255) hx hb dX4_areMarks_5 (by decide) ?_
    refine lv_icmp_gt (tgt := 15) hx hb dX4_areMarks_8 (by decide) (fun c2 => ?_) (fun c2 => ?_)
    · have hw := gq_t c2 hw
      refine lv_iconst (v := 0) hx hb dX4_areMarks_15 (by decide) ?_
      exact hz 0 () _ _ _ _ dX4_areMarks_16 gq_zb0 hw hP hD hS
    · have hw := gq_f c2 hw
      refine lv_iconst (v := 1) hx hb dX4_areMarks_11 (by decide) ?_
      refine lv_goto (tgt := 16) hx hb dX4_areMarks_12 (by decide) ?_
      exact hz 1 () _ _ _ _ dX4_areMarks_16 gq_zb1 hw hP hD hS

def wp_J6_bitCount_0f7a4 (p1 : Int32)  (post : Int32 → Prop) : Prop :=
  gq_nm (p1 - ((gq_ushr p1 1) &&& 1431655765)) (fun v1 : Int32 => gq_nm ((v1 &&& 858993459) + ((gq_ushr v1 2) &&& 858993459)) (fun v2 : Int32 => gq_nm ((v2 + (gq_ushr v2 4)) &&& 252645135) (fun v3 : Int32 => gq_nm (v3 + (gq_ushr v3 8)) (fun v4 : Int32 => gq_nm (v4 + (gq_ushr v4 16)) (fun v5 : Int32 => post (v5 &&& 63))))))

set_option maxHeartbeats 4000000 in
set_option maxRecDepth 100000 in
theorem c_J6_bitCount_0f7a4 (l : Launch) (D : va_G) (sz : Nat)  (p1 : Int32) (post : Int32 → Prop) (hw : wp_J6_bitCount_0f7a4 p1 post) : Met l yJ6_bitCount_0f7a4 wsJ6_bitCount_0f7a4 { frames := 0, cells := 0, slots := 0, locals := 0 } (va_Pc [.int p1] (gq_pre D ([] : List (ClassId × FieldType)) ([] : va_W) sz)) (va_Qi (fun (r : Int32) (_ : Unit) => post r ) (gq_at D (va_A ([] : va_W) sz) (fun (_ : Unit) => ([] : va_W))) (va_A ([] : va_W) sz)) 0 0 (va_A ([] : va_W) sz) := by
  refine gq_meti (cc := cJ6_bitCount_0f7a4) (maxL := 1) (lv := [(0, .int p1)]) (by decide) rfl (Nat.le_of_ble_eq_true rfl) rfl ?_
  intro p e s m below meth c A Q ls H locs hx hb hml hown hts hnw hA hK hP hD hS hl hz
  refine lv_iload_n hx hb dJ6_bitCount_0f7a4_0 rfl (lv_at hl 0 rfl) ?_
  refine lv_iload_n hx hb dJ6_bitCount_0f7a4_1 rfl (lv_at hl 0 rfl) ?_
  refine lv_iconst (v := 1) hx hb dJ6_bitCount_0f7a4_2 (by decide) ?_
  refine lv_iushr (v := (gq_ushr p1 1)) hx hb dJ6_bitCount_0f7a4_3 rfl ?_
  refine lv_ldcw hx hb hown (hts (.constant RJ6 265 (1431655765)) (by decide +kernel)) dJ6_bitCount_0f7a4_4 ?_
  refine lv_iand hx hb dJ6_bitCount_0f7a4_7 ?_
  refine lv_isub hx hb dJ6_bitCount_0f7a4_8 ?_
  refine lv_topi (fun v1 ev1 => ?_)
  have hw := gq_at1 hw ev1
  refine lv_istore_n (lv' := [(0, .int v1)]) hx hb dJ6_bitCount_0f7a4_9 rfl hl (by decide) rfl (fun ls hl => ?_)
  refine lv_iload_n hx hb dJ6_bitCount_0f7a4_10 rfl (lv_at hl 0 rfl) ?_
  refine lv_ldcw hx hb hown (hts (.constant RJ6 266 (858993459)) (by decide +kernel)) dJ6_bitCount_0f7a4_11 ?_
  refine lv_iand hx hb dJ6_bitCount_0f7a4_14 ?_
  refine lv_iload_n hx hb dJ6_bitCount_0f7a4_15 rfl (lv_at hl 0 rfl) ?_
  refine lv_iconst (v := 2) hx hb dJ6_bitCount_0f7a4_16 (by decide) ?_
  refine lv_iushr (v := (gq_ushr v1 2)) hx hb dJ6_bitCount_0f7a4_17 rfl ?_
  refine lv_ldcw hx hb hown (hts (.constant RJ6 266 (858993459)) (by decide +kernel)) dJ6_bitCount_0f7a4_18 ?_
  refine lv_iand hx hb dJ6_bitCount_0f7a4_21 ?_
  refine lv_iadd hx hb dJ6_bitCount_0f7a4_22 ?_
  refine lv_topi (fun v2 ev2 => ?_)
  have hw := gq_at1 hw ev2
  refine lv_istore_n (lv' := [(0, .int v2)]) hx hb dJ6_bitCount_0f7a4_23 rfl hl (by decide) rfl (fun ls hl => ?_)
  refine lv_iload_n hx hb dJ6_bitCount_0f7a4_24 rfl (lv_at hl 0 rfl) ?_
  refine lv_iload_n hx hb dJ6_bitCount_0f7a4_25 rfl (lv_at hl 0 rfl) ?_
  refine lv_iconst (v := 4) hx hb dJ6_bitCount_0f7a4_26 (by decide) ?_
  refine lv_iushr (v := (gq_ushr v2 4)) hx hb dJ6_bitCount_0f7a4_27 rfl ?_
  refine lv_iadd hx hb dJ6_bitCount_0f7a4_28 ?_
  refine lv_ldcw hx hb hown (hts (.constant RJ6 267 (252645135)) (by decide +kernel)) dJ6_bitCount_0f7a4_29 ?_
  refine lv_iand hx hb dJ6_bitCount_0f7a4_32 ?_
  refine lv_topi (fun v3 ev3 => ?_)
  have hw := gq_at1 hw ev3
  refine lv_istore_n (lv' := [(0, .int v3)]) hx hb dJ6_bitCount_0f7a4_33 rfl hl (by decide) rfl (fun ls hl => ?_)
  refine lv_iload_n hx hb dJ6_bitCount_0f7a4_34 rfl (lv_at hl 0 rfl) ?_
  refine lv_iload_n hx hb dJ6_bitCount_0f7a4_35 rfl (lv_at hl 0 rfl) ?_
  refine lv_bipush (v := 8) hx hb dJ6_bitCount_0f7a4_36 (by decide) ?_
  refine lv_iushr (v := (gq_ushr v3 8)) hx hb dJ6_bitCount_0f7a4_38 rfl ?_
  refine lv_iadd hx hb dJ6_bitCount_0f7a4_39 ?_
  refine lv_topi (fun v4 ev4 => ?_)
  have hw := gq_at1 hw ev4
  refine lv_istore_n (lv' := [(0, .int v4)]) hx hb dJ6_bitCount_0f7a4_40 rfl hl (by decide) rfl (fun ls hl => ?_)
  refine lv_iload_n hx hb dJ6_bitCount_0f7a4_41 rfl (lv_at hl 0 rfl) ?_
  refine lv_iload_n hx hb dJ6_bitCount_0f7a4_42 rfl (lv_at hl 0 rfl) ?_
  refine lv_bipush (v := 16) hx hb dJ6_bitCount_0f7a4_43 (by decide) ?_
  refine lv_iushr (v := (gq_ushr v4 16)) hx hb dJ6_bitCount_0f7a4_45 rfl ?_
  refine lv_iadd hx hb dJ6_bitCount_0f7a4_46 ?_
  refine lv_topi (fun v5 ev5 => ?_)
  have hw := gq_at1 hw ev5
  refine lv_istore_n (lv' := [(0, .int v5)]) hx hb dJ6_bitCount_0f7a4_47 rfl hl (by decide) rfl (fun ls hl => ?_)
  refine lv_iload_n hx hb dJ6_bitCount_0f7a4_48 rfl (lv_at hl 0 rfl) ?_
  refine lv_bipush (v := 63) hx hb dJ6_bitCount_0f7a4_49 (by decide) ?_
  refine lv_iand hx hb dJ6_bitCount_0f7a4_51 ?_
  exact hz (v5 &&& 63) () _ _ _ _ dJ6_bitCount_0f7a4_52 hw hP hD hS

def wp_X5_isIn (p1 : Int32) (p2 : Int32) (p3 : Int32)  (post : Int32 → Prop) : Prop :=
  (if p1 < p2 then post 0 else (if p3 < p1 then post 0 else post 1))

set_option maxHeartbeats 4000000 in
set_option maxRecDepth 100000 in
theorem c_X5_isIn (l : Launch) (D : va_G) (sz : Nat)  (p1 : Int32) (p2 : Int32) (p3 : Int32) (post : Int32 → Prop) (hw : wp_X5_isIn p1 p2 p3 post) : Met l yX5_isIn wsX5_isIn { frames := 0, cells := 0, slots := 0, locals := 0 } (va_Pc [.int p1, .int p2, .int p3] (gq_pre D ([] : List (ClassId × FieldType)) ([] : va_W) sz)) (va_Qi (fun (r : Int32) (_ : Unit) => post r ) (gq_at D (va_A ([] : va_W) sz) (fun (_ : Unit) => ([] : va_W))) (va_A ([] : va_W) sz)) 0 0 (va_A ([] : va_W) sz) := by
  refine gq_metz (cc := cX5_isIn) (maxL := 3) (lv := [(0, .int p1), (1, .int p2), (2, .int p3)]) (by decide) rfl (Nat.le_of_ble_eq_true rfl) rfl ?_
  intro p e s m below meth c A Q ls H locs hx hb hml hown hts hnw hA hK hP hD hS hl hz
  refine lv_iload_n hx hb dX5_isIn_0 rfl (lv_at hl 0 rfl) ?_
  refine lv_iload_n hx hb dX5_isIn_1 rfl (lv_at hl 1 rfl) ?_
  refine lv_icmp_lt (tgt := 14) hx hb dX5_isIn_2 (by decide) (fun c1 => ?_) (fun c1 => ?_)
  · have hw := gq_t c1 hw
    refine lv_iconst (v := 0) hx hb dX5_isIn_14 (by decide) ?_
    exact hz 0 () _ _ _ _ dX5_isIn_15 gq_zb0 hw hP hD hS
  · have hw := gq_f c1 hw
    refine lv_iload_n hx hb dX5_isIn_5 rfl (lv_at hl 0 rfl) ?_
    refine lv_iload_n hx hb dX5_isIn_6 rfl (lv_at hl 2 rfl) ?_
    refine lv_icmp_gt (tgt := 14) hx hb dX5_isIn_7 (by decide) (fun c2 => ?_) (fun c2 => ?_)
    · have hw := gq_t c2 hw
      refine lv_iconst (v := 0) hx hb dX5_isIn_14 (by decide) ?_
      exact hz 0 () _ _ _ _ dX5_isIn_15 gq_zb0 hw hP hD hS
    · have hw := gq_f c2 hw
      refine lv_iconst (v := 1) hx hb dX5_isIn_10 (by decide) ?_
      refine lv_goto (tgt := 15) hx hb dX5_isIn_11 (by decide) ?_
      exact hz 1 () _ _ _ _ dX5_isIn_15 gq_zb1 hw hP hD hS

def wl_X5_bits_4 (p1 : Int32)   (post : Int32 → Prop) : Nat → Int32 → Int32 → Prop
  | 0, _, _ => False
  | n4 + 1, x1, x2 => (if 9 ≤ x2 then post x1 else gq_nm (x1 + ((p1 >>> (x2 &&& 31)) &&& 1)) (fun v4 : Int32 => gq_nm (x2 + 1) (fun v5 : Int32 => wl_X5_bits_4 p1 post n4 v4 v5)))

def wp_X5_bits (p1 : Int32)  (post : Int32 → Prop) : Prop :=
  ∃ k4, wl_X5_bits_4 p1 post k4 0 0

set_option maxHeartbeats 4000000 in
set_option maxRecDepth 100000 in
theorem c_X5_bits (l : Launch) (D : va_G) (sz : Nat)  (p1 : Int32) (post : Int32 → Prop) (hw : wp_X5_bits p1 post) : Met l yX5_bits wsX5_bits { frames := 0, cells := 0, slots := 0, locals := 0 } (va_Pc [.int p1] (gq_pre D ([] : List (ClassId × FieldType)) ([] : va_W) sz)) (va_Qi (fun (r : Int32) (_ : Unit) => post r ) (gq_at D (va_A ([] : va_W) sz) (fun (_ : Unit) => ([] : va_W))) (va_A ([] : va_W) sz)) 0 0 (va_A ([] : va_W) sz) := by
  refine gq_meti (cc := cX5_bits) (maxL := 3) (lv := [(0, .int p1)]) (by decide) rfl (Nat.le_of_ble_eq_true rfl) rfl ?_
  intro p e s m below meth c A Q ls H locs hx hb hml hown hts hnw hA hK hP hD hS hl hz
  refine lv_iconst (v := 0) hx hb dX5_bits_0 (by decide) ?_
  refine lv_istore_n (lv' := [(1, .int 0), (0, .int p1)]) hx hb dX5_bits_1 rfl hl (by decide) rfl (fun ls hl => ?_)
  refine lv_iconst (v := 0) hx hb dX5_bits_2 (by decide) ?_
  refine lv_istore_n (lv' := [(2, .int 0), (1, .int 0), (0, .int p1)]) hx hb dX5_bits_3 rfl hl (by decide) rfl (fun ls hl => ?_)
  have hL4 : ∀ (n : Nat) (x1 : Int32) (x2 : Int32) (H : Heap) (locs : List Loc), wl_X5_bits_4 p1 post n x1 x2 → va_P D vwCl ([] : va_W) H → va_D A ([] : va_W) → va_S A s.heap H locs → ∀ ls : Array Slot, lv_has ls 3 [(0, .int p1), (1, .int x1), (2, .int x2)] → W p l e { frames := 0, cells := 0, slots := 0, locals := 0 } s m ([.int p1] : List Value).toArray below meth c H locs 0 0 Q (F0 m 4 ls []) := by
    intro n
    induction n with
    | zero =>
      intro x1 x2 H locs hw
      exact hw.elim
    | succ n ih =>
      intro x1 x2 H locs hw hP hD hS ls hl
      refine lv_iload_n hx hb dX5_bits_4 rfl (lv_at hl 2 rfl) ?_
      refine lv_bipush (v := 9) hx hb dX5_bits_5 (by decide) ?_
      refine lv_icmp_ge (tgt := 24) hx hb dX5_bits_7 (by decide) (fun c3 => ?_) (fun c3 => ?_)
      · have hw := gq_t c3 hw
        refine lv_iload_n hx hb dX5_bits_24 rfl (lv_at hl 1 rfl) ?_
        exact hz x1 () _ _ _ _ dX5_bits_25 hw hP hD hS
      · have hw := gq_f c3 hw
        refine lv_iload_n hx hb dX5_bits_10 rfl (lv_at hl 1 rfl) ?_
        refine lv_iload_n hx hb dX5_bits_11 rfl (lv_at hl 0 rfl) ?_
        refine lv_iload_n hx hb dX5_bits_12 rfl (lv_at hl 2 rfl) ?_
        refine lv_ishr hx hb dX5_bits_13 ?_
        refine lv_iconst (v := 1) hx hb dX5_bits_14 (by decide) ?_
        refine lv_iand hx hb dX5_bits_15 ?_
        refine lv_iadd hx hb dX5_bits_16 ?_
        refine lv_topi (fun v4 ev4 => ?_)
        have hw := gq_at1 hw ev4
        refine lv_istore_n (lv' := [(1, .int v4), (0, .int p1), (2, .int x2)]) hx hb dX5_bits_17 rfl hl (by decide) rfl (fun ls hl => ?_)
        obtain ⟨v5, ev5⟩ : ∃ y : Int32, y = x2 + 1 := ⟨_, rfl⟩
        have hw := gq_at1 hw ev5
        refine lv_iinc (v := v5) (lv' := [(2, .int v5), (1, .int v4), (0, .int p1)]) hx hb dX5_bits_18 hl (k := 2) rfl (by rw [ev5]; rfl) (by decide) rfl (fun ls hl => ?_)
        refine lv_goto (tgt := 4) hx hb dX5_bits_21 (by decide) ?_
        exact ih v4 v5 _ _ hw hP hD hS ls (lv_sub hl [2, 1, 0] rfl)
  obtain ⟨n, hw⟩ := hw
  exact hL4 n 0 0 _ _ hw hP hD hS ls (lv_sub hl [2, 1, 0] rfl)

