def gq_ushr (x y : Int32) : Int32 := (x.toUInt32 >>> (y.toUInt32 &&& Int32.toUInt32 31)).toInt32
theorem gq_out {x : Int32} (n : Nat) (h : ∀ k, k < n → ¬ x = Int32.ofNat k) : x.toInt < 0 ∨ ((n : Int) - 1) < x.toInt := by
  rcases Decidable.em (x < 0) with q | q
  · exact Or.inl (by rw [Int32.lt_iff_toInt_lt] at q; exact q)
  · obtain ⟨j, hj, rfl⟩ := nI_of q
    right
    rw [nI_toInt hj]
    rcases Nat.lt_or_ge j n with w | w
    · exact absurd rfl (h j w)
    · omega
def gq_fill (n : Nat) (f : Nat → Int32) (x : Int32) : Nat → Int32 := fun k => if k < n then x else f k
theorem gq_fill_0 (f : Nat → Int32) (x : Int32) : gq_fill 0 f x = f := by
  funext k
  simp [gq_fill]
theorem gq_fill_s (i : Nat) (f : Nat → Int32) (x : Int32) : upd (gq_fill i f x) i x = gq_fill (i + 1) f x := by
  funext k
  simp only [upd, gq_fill]
  rcases Nat.lt_trichotomy k i with h | h | h
  · rw [if_neg (by omega), if_pos h, if_pos (by omega)]
  · subst h
    rw [if_pos rfl, if_pos (by omega)]
  · rw [if_neg (by omega), if_neg (by omega), if_neg (by omega)]
set_option maxHeartbeats 4000000 in
set_option maxRecDepth 100000 in
theorem c_J7_fill (l : Launch) (D : va_G) (a : Nat) (cA : ClassId) (n sz : Nat) (f : Nat → Int32) (x : Int32) (hn : n < 2 ^ 31) : Met l yJ7_fill_53178 wsJ7_fill_53178 { frames := 0, cells := 0, slots := 0, locals := 0 } (va_Pc [.ref a, .int x] (gq_pre D [(cA, .int)] [(a, .inl (cA, n, .inl f))] sz)) (va_Qv (fun (g : Nat → Int32) => g = gq_fill n f x) (gq_at D (va_A [(a, .inl (cA, n, .inl f))] sz) (fun (g : Nat → Int32) => [(a, .inl (cA, n, .inl g))])) (va_A [(a, .inl (cA, n, .inl f))] sz)) 0 0 (va_A [(a, .inl (cA, n, .inl f))] sz) := by
  refine gq_metv (cc := cJ7_fill_53178) (maxL := 4) (lv := [(0, .ref a), (1, .int x)]) (by decide) rfl (Nat.le_of_ble_eq_true rfl) rfl ?_
  intro p e s m below meth c A Q ls H locs hx hb hml hown hts hnw hA hK hP hD hS hl hz
  have hL : ∀ (k i : Nat) (H : Heap) (locs : List Loc), i ≤ n → n + 1 ≤ i + k → va_P D vwCl [(a, .inl (cA, n, .inl (gq_fill i f x)))] H → va_D A [(a, .inl (cA, n, .inl (gq_fill i f x)))] → va_S A s.heap H locs → ∀ ls : Array Slot, lv_has ls 4 [(3, .int (nI n)), (2, .int (nI i)), (0, .ref a), (1, .int x)] → W p l e { frames := 0, cells := 0, slots := 0, locals := 0 } s m ([.ref a, .int x] : List Value).toArray below meth c H locs 0 0 Q (F0 m 5 ls []) := by
    intro k
    induction k with
    | zero =>
      intro i H locs h1 h2
      exact absurd h2 (by omega)
    | succ k ih =>
      intro i H locs h1 h2 hP hD hS ls hl
      refine lv_iload_n hx hb dJ7_fill_53178_5 rfl (lv_at hl 1 rfl) ?_
      refine lv_iload_n hx hb dJ7_fill_53178_6 rfl (lv_at hl 0 rfl) ?_
      refine lv_icmp_ge (tgt := 20) hx hb dJ7_fill_53178_7 (by decide) (fun c1 => ?_) (fun c1 => ?_)
      · have e1 : i = n := by
          rcases Nat.lt_or_ge i n with q | q
          · exact absurd c1 (nI_ge q hn)
          · omega
        subst e1
        exact hz (gq_fill i f x) _ _ _ _ dJ7_fill_53178_20 rfl hP hD hS
      · have hlt : i < n := by
          rcases Nat.lt_or_ge i n with q | q
          · exact q
          · exact absurd (nI_le q (by omega)) c1
        refine lv_aload_n hx hb dJ7_fill_53178_10 rfl (lv_at hl 2 rfl) ?_
        refine lv_iload_n hx hb dJ7_fill_53178_11 rfl (lv_at hl 1 rfl) ?_
        refine lv_iload_n hx hb dJ7_fill_53178_12 rfl (lv_at hl 3 rfl) ?_
        refine va_iast hx hb hK hP hD hS 0 0 rfl rfl (vp_in_nI hlt hn) dJ7_fill_53178_13 (fun H locs hP hD hS => ?_)
        have e2 : upd (gq_fill i f x) (nI i).toNatClampNeg x = gq_fill (i + 1) f x := by rw [nI_clamp (by omega), gq_fill_s]
        rw [e2] at hP hD
        refine lv_iinc (v := nI (i + 1)) (lv' := [(2, .int (nI (i + 1))), (3, .int (nI n)), (0, .ref a), (1, .int x)]) hx hb dJ7_fill_53178_14 hl (k := 1) rfl (nI_1 i) (by decide) rfl (fun ls hl => ?_)
        refine lv_goto (tgt := 5) hx hb dJ7_fill_53178_17 (by decide) ?_
        exact ih (i + 1) _ _ (by omega) (by omega) hP hD hS ls (lv_sub hl [1, 0, 2, 3] rfl)
  refine lv_iconst (v := 0) hx hb dJ7_fill_53178_0 (by decide) ?_
  refine lv_istore_n (lv' := [(2, .int 0), (0, .ref a), (1, .int x)]) hx hb dJ7_fill_53178_1 rfl hl (by decide) rfl (fun ls hl => ?_)
  refine lv_aload_n hx hb dJ7_fill_53178_2 rfl (lv_at hl 1 rfl) ?_
  refine va_alen (v := nI n) hx hb hK hP 0 0 rfl rfl rfl dJ7_fill_53178_3 ?_
  refine lv_istore_n (lv' := [(3, .int (nI n)), (2, .int 0), (0, .ref a), (1, .int x)]) hx hb dJ7_fill_53178_4 rfl hl (by decide) rfl (fun ls hl => ?_)
  have e0 : gq_fill 0 f x = f := gq_fill_0 f x
  exact hL (n + 1) 0 _ _ (Nat.zero_le _) (by omega) (by rw [e0]; exact hP) (by rw [e0]; exact hD) hS ls hl
def wdP (ad : Nat → Nat) (ck : Nat → ClassId) (Pd : Nat → Int32) (Pm : Nat → Int32) (Ps : Int32) (Pg : Int32) (Pj : Int32) : va_W := [(ad 1, .inr (0, [.ref (ad 2), .ref (ad 3), .int Ps, .int Pg, .int Pj])), (ad 2, .inl (ck 2, 9, .inl Pd)), (ad 3, .inl (ck 3, 9, .inl Pm))]
def tyP (ck : Nat → ClassId) : List (ClassId × FieldType) := [(ck 2, .int), (ck 3, .int)]
def wdB (ad : Nat → Nat) (ck : Nat → ClassId) (Bt : Nat → Int32) (Bi : Nat → Int32) (Bf : Int32) (Br : Int32) : va_W := [(ad 4, .inr (3, [.ref (ad 5), .ref (ad 6), .int Bf, .int Br])), (ad 5, .inl (ck 5, 2000, .inl Bt)), (ad 6, .inl (ck 6, 512, .inl Bi))]
def tyB (ck : Nat → ClassId) : List (ClassId × FieldType) := [(ck 5, .int), (ck 6, .int)]
def wdR (ad : Nat → Nat) (ck : Nat → ClassId) (Rt : Nat → Int32) (Rl : Nat → Int32) (Rr : Nat → Int32) (Ra : Nat → Int32) : va_W := [(ad 7, .inr (1, [.ref (ad 8), .ref (ad 9), .ref (ad 10), .ref (ad 11)])), (ad 8, .inl (ck 8, 6, .inl Rt)), (ad 9, .inl (ck 9, 6, .inl Rl)), (ad 10, .inl (ck 10, 6, .inl Rr)), (ad 11, .inl (ck 11, 9, .inl Ra))]
def tyR (ck : Nat → ClassId) : List (ClassId × FieldType) := [(ck 8, .int), (ck 9, .int), (ck 10, .int), (ck 11, .int)]
def wdW (ad : Nat → Nat) (ck : Nat → ClassId) (Wt : Nat → Int32) (Wa : Nat → Int32) (Wk : Nat → Int32) (Wd : Int32) (Wn : Int32) (We : Int32) (Wb : Int32) : va_W := [(ad 12, .inr (2, [.ref (ad 13), .ref (ad 14), .ref (ad 15), .int Wd, .int Wn, .int We, .int Wb])), (ad 13, .inl (ck 13, 6, .inl Wt)), (ad 14, .inl (ck 14, 9, .inl Wa)), (ad 15, .inl (ck 15, 9, .inl Wk))]
def tyW (ck : Nat → ClassId) : List (ClassId × FieldType) := [(ck 13, .int), (ck 14, .int), (ck 15, .int)]
def wdBP (ad : Nat → Nat) (ck : Nat → ClassId) (Pd : Nat → Int32) (Pm : Nat → Int32) (Ps : Int32) (Pg : Int32) (Pj : Int32) (Bt : Nat → Int32) (Bi : Nat → Int32) (Bf : Int32) (Br : Int32) : va_W := [(ad 4, .inr (3, [.ref (ad 5), .ref (ad 6), .int Bf, .int Br])), (ad 5, .inl (ck 5, 2000, .inl Bt)), (ad 6, .inl (ck 6, 512, .inl Bi)), (ad 1, .inr (0, [.ref (ad 2), .ref (ad 3), .int Ps, .int Pg, .int Pj])), (ad 2, .inl (ck 2, 9, .inl Pd)), (ad 3, .inl (ck 3, 9, .inl Pm))]
def tyBP (ck : Nat → ClassId) : List (ClassId × FieldType) := [(ck 5, .int), (ck 6, .int), (ck 2, .int), (ck 3, .int)]
def wdH (ad : Nat → Nat) (ck : Nat → ClassId) (Pd : Nat → Int32) (Pm : Nat → Int32) (Ps : Int32) (Pg : Int32) (Pj : Int32) (Bt : Nat → Int32) (Bi : Nat → Int32) (Bf : Int32) (Br : Int32) (Rt : Nat → Int32) (Rl : Nat → Int32) (Rr : Nat → Int32) (Ra : Nat → Int32) (Wt : Nat → Int32) (Wa : Nat → Int32) (Wk : Nat → Int32) (Wd : Int32) (Wn : Int32) (We : Int32) (Wb : Int32) (Hv : Int32) : va_W := [(ad 0, .inr (4, [.ref (ad 1), .ref (ad 4), .ref (ad 7), .ref (ad 12), .int Hv])), (ad 1, .inr (0, [.ref (ad 2), .ref (ad 3), .int Ps, .int Pg, .int Pj])), (ad 2, .inl (ck 2, 9, .inl Pd)), (ad 3, .inl (ck 3, 9, .inl Pm)), (ad 4, .inr (3, [.ref (ad 5), .ref (ad 6), .int Bf, .int Br])), (ad 5, .inl (ck 5, 2000, .inl Bt)), (ad 6, .inl (ck 6, 512, .inl Bi)), (ad 7, .inr (1, [.ref (ad 8), .ref (ad 9), .ref (ad 10), .ref (ad 11)])), (ad 8, .inl (ck 8, 6, .inl Rt)), (ad 9, .inl (ck 9, 6, .inl Rl)), (ad 10, .inl (ck 10, 6, .inl Rr)), (ad 11, .inl (ck 11, 9, .inl Ra)), (ad 12, .inr (2, [.ref (ad 13), .ref (ad 14), .ref (ad 15), .int Wd, .int Wn, .int We, .int Wb])), (ad 13, .inl (ck 13, 6, .inl Wt)), (ad 14, .inl (ck 14, 9, .inl Wa)), (ad 15, .inl (ck 15, 9, .inl Wk))]
def tyH (ck : Nat → ClassId) : List (ClassId × FieldType) := [(ck 2, .int), (ck 3, .int), (ck 5, .int), (ck 6, .int), (ck 8, .int), (ck 9, .int), (ck 10, .int), (ck 11, .int), (ck 13, .int), (ck 14, .int), (ck 15, .int)]
def wdM (ad : Nat → Nat) (ck : Nat → ClassId) (Mp : Int32) (Mv : Int32) (Mb : Int32) (Me : Int32) (Md : Int32) (Mdo : Nat → Int32) (Mk : Nat → Int32) (Mm : Nat → Int32) (Mta : Nat → Int32) (Mkn : Nat → Int32) (Mti : Nat → Int32) (Mrl : Nat → Int32) (Mrr : Nat → Int32) (Mt : Nat → Int32) (Mn : Int32) (Mw : Nat → Int32) (Mwl : Nat → Int32) (Mws : Nat → Int32) (Mf : Int32) (Mpa : Nat → Int32) (Mne : Nat → Int32) : va_W := [(ad 16, .inr (5, [.int Mp, .int Mv, .int Mb, .int Me, .int Md, .ref (ad 17), .ref (ad 18), .ref (ad 19), .ref (ad 20), .ref (ad 21), .ref (ad 22), .ref (ad 23), .ref (ad 24), .ref (ad 25), .int Mn, .ref (ad 26), .ref (ad 27), .ref (ad 28), .int Mf, .ref (ad 29), .ref (ad 30)])), (ad 17, .inl (ck 17, 81, .inl Mdo)), (ad 18, .inl (ck 18, 9, .inl Mk)), (ad 19, .inl (ck 19, 9, .inl Mm)), (ad 20, .inl (ck 20, 9, .inl Mta)), (ad 21, .inl (ck 21, 9, .inl Mkn)), (ad 22, .inl (ck 22, 6, .inl Mti)), (ad 23, .inl (ck 23, 6, .inl Mrl)), (ad 24, .inl (ck 24, 48, .inl Mrr)), (ad 25, .inl (ck 25, 6, .inl Mt)), (ad 26, .inl (ck 26, 12000, .inl Mw)), (ad 27, .inl (ck 27, 2000, .inl Mwl)), (ad 28, .inl (ck 28, 2000, .inl Mws)), (ad 29, .inl (ck 29, 7, .inl Mpa)), (ad 30, .inl (ck 30, 7, .inl Mne))]
def tyM (ck : Nat → ClassId) : List (ClassId × FieldType) := [(ck 17, .boolean), (ck 18, .int), (ck 19, .int), (ck 20, .int), (ck 21, .int), (ck 22, .int), (ck 23, .int), (ck 24, .int), (ck 25, .int), (ck 26, .int), (ck 27, .int), (ck 28, .int), (ck 29, .int), (ck 30, .int)]

