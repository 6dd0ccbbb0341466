set_option maxHeartbeats 8000000 in
set_option maxRecDepth 100000 in
theorem law_loop {Inv : InvT} (hst : Steps Inv) {p : Program} {l : Launch} {e : Env} {s : State} {m : MethodId} {below : List Frame} {meth : Method} {c : Code} {D : va_G} {ad : Nat → Nat} {ck : Nat → ClassId} {b L : Nat} {xs : Nat → Int32} (hL : L ≤ 2560) (C0 : lw_At p s m meth c b L xs) (hK : va_K D vwCl (tyL ck) s) (hnw : gq_nw s) : ∀ (n j : Nat), j ≤ L → L + 1 ≤ j + n → ∀ (Pd : Nat → Int32) (Pm : Nat → Int32) (Ps : Int32) (Pg : Int32) (Pj : Int32) (Bt : Nat → Int32) (Bi : Nat → Int32) (Bf : Int32) (Br : Int32) (Rt : Nat → Int32) (Rl : Nat → Int32) (Rr : Nat → Int32) (Ra : Nat → Int32) (Wt : Nat → Int32) (Wa : Nat → Int32) (Wk : Nat → Int32) (Wd : Int32) (Wn : Int32) (We : Int32) (Wb : Int32) (Hv : Int32) (Mp : Int32) (Mv : Int32) (Mb : Int32) (Me : Int32) (Md : Int32) (Mdo : Nat → Int32) (Mk : Nat → Int32) (Mm : Nat → Int32) (Mta : Nat → Int32) (Mkn : Nat → Int32) (Mti : Nat → Int32) (Mrl : Nat → Int32) (Mrr : Nat → Int32) (Mt : Nat → Int32) (Mn : Int32) (Mw : Nat → Int32) (Mwl : Nat → Int32) (Mws : Nat → Int32) (Mf : Int32) (Mpa : Nat → Int32) (Mne : Nat → Int32), Inv Pd Pm Ps Pg Pj Bt Bi Bf Br Rt Rl Rr Ra Wt Wa Wk Wd Wn We Wb Hv Mp Mv Mb Me Md Mdo Mk Mm Mta Mkn Mti Mrl Mrr Mt Mn Mw Mwl Mws Mf Mpa Mne → ∀ (H : Heap) (locs : List Loc), va_P D vwCl (wdL ad ck Pd Pm Ps Pg Pj Bt Bi Bf Br Rt Rl Rr Ra Wt Wa Wk Wd Wn We Wb Hv Mp Mv Mb Me Md Mdo Mk Mm Mta Mkn Mti Mrl Mrr Mt Mn Mw Mwl Mws Mf Mpa Mne) H → va_D (fun q : Nat => s.heap.size ≤ q) (wdL ad ck Pd Pm Ps Pg Pj Bt Bi Bf Br Rt Rl Rr Ra Wt Wa Wk Wd Wn We Wb Hv Mp Mv Mb Me Md Mdo Mk Mm Mta Mkn Mti Mrl Mrr Mt Mn Mw Mwl Mws Mf Mpa Mne) → va_S (fun q : Nat => s.heap.size ≤ q) s.heap H locs → ∀ ls : Array Slot, lv_has ls 4 [(0, .ref b), (1, .ref (ad 0)), (2, .ref (ad 16)), (3, .int (nI j))] → W p l e room_1 s m #[Value.ref b] below meth c H locs 600000 7302250 (lw_Z below #[Value.ref b] s) (F0 m 18 ls []) := by
  obtain ⟨-, st_house, st_door, st_is, st_looks, st_visible, st_round, st_look, st_ways, st_way, st_touched, st_honest, st_best, st_cover, st_lay, st_unlike, st_touch, st_left, st_leftWay, st_next, st_tell, st_bear, st_tales, st_day, st_move⟩ := hst
  have C1 := C0
  obtain ⟨hx, hb, hr, hml, hown, hts, hX, hbl, hlocks, hgv⟩ := C0
  have hown : s.vm.findClass RL = some m.cls := hown
  have hts : ∀ w ∈ wsL_law, w.before #[Value.ref b] s = true := fun w h => hts w (wsL_law_in w h)
  have hA : ∀ q : Nat, s.heap.size ≤ q → (fun q : Nat => s.heap.size ≤ q) q := fun _ h => h
  have hbA : ¬ (fun q : Nat => s.heap.size ≤ q) b := Nat.not_le.mpr hbl
  intro n
  induction n with
  | zero =>
    intro j h1 h2
    exact absurd h2 (by omega)
  | succ n ih =>
    intro j hj0 hn Pd Pm Ps Pg Pj Bt Bi Bf Br Rt Rl Rr Ra Wt Wa Wk Wd Wn We Wb Hv Mp Mv Mb Me Md Mdo Mk Mm Mta Mkn Mti Mrl Mrr Mt Mn Mw Mwl Mws Mf Mpa Mne hI H locs hP hD hS ls hl
    refine lv_iload_n hx hb dL_law_18 rfl (lv_at hl 3 rfl) ?_
    refine lv_aload_n hx hb dL_law_19 rfl (lv_at hl 0 rfl) ?_
    refine va_slen hx hb hX hbl hbA hS dL_law_20 ?_
    refine lv_iconst (v := 5) hx hb dL_law_21 (by decide) ?_
    refine lv_isub hx hb dL_law_22 ?_
    have e5 : (Int32.ofNat L - 5).toInt = (L : Int) - 5 := pk_sub_toInt (a := L) (b := 5) (by omega) (by decide)
    have ej : (nI j).toInt = (j : Int) := nI_toInt (by omega)
    refine lv_icmp_gt (tgt := 778) hx hb dL_law_23 (by decide) (fun c_1 => ?_) (fun c_1 => ?_)
    · refine lv_iconst (v := 1) hx hb dL_law_778 (by decide) ?_
      refine va_forget (fun q hq => hS.2.2 q hq) ?_
      exact lw_ret hx hb hr hlocks dL_law_779
    · have hj : j + 5 ≤ L := by (rw [Int32.lt_iff_toInt_lt, e5, ej] at c_1; omega)
      have hin0 : vp_in (nI j) L := vp_in_nI (by omega) (by omega)
      refine lv_aload_n hx hb dL_law_26 rfl (lv_at hl 0 rfl) ?_
      refine lv_iload_n hx hb dL_law_27 rfl (lv_at hl 3 rfl) ?_
      refine va_sld hx hb hX hbl hbA hS hin0 dL_law_28 ?_
      refine lv_bipush (v := 31) hx hb dL_law_29 (by decide) ?_
      refine lv_iand hx hb dL_law_31 ?_
      refine lv_topi (fun op eop => ?_)
      rcases Decidable.em (op = 0) with cs0 | cs0
      · refine lv_tableIn (off := 112) (tgt := 144) hx hb dL_law_32 (by rw [cs0]; decide) (by rw [cs0]; decide) (by rw [cs0]; decide) (by decide) ?_
        exact law_house st_house hL C1 hK hnw hj hn ih Pd Pm Ps Pg Pj Bt Bi Bf Br Rt Rl Rr Ra Wt Wa Wk Wd Wn We Wb Hv Mp Mv Mb Me Md Mdo Mk Mm Mta Mkn Mti Mrl Mrr Mt Mn Mw Mwl Mws Mf Mpa Mne hI hP hD hS hl
      rcases Decidable.em (op = 1) with cs1 | cs1
      · refine lv_tableIn (off := 135) (tgt := 167) hx hb dL_law_32 (by rw [cs1]; decide) (by rw [cs1]; decide) (by rw [cs1]; decide) (by decide) ?_
        exact law_door st_door hL C1 hK hnw hj hn ih Pd Pm Ps Pg Pj Bt Bi Bf Br Rt Rl Rr Ra Wt Wa Wk Wd Wn We Wb Hv Mp Mv Mb Me Md Mdo Mk Mm Mta Mkn Mti Mrl Mrr Mt Mn Mw Mwl Mws Mf Mpa Mne hI hP hD hS hl
      rcases Decidable.em (op = 2) with cs2 | cs2
      · refine lv_tableIn (off := 194) (tgt := 226) hx hb dL_law_32 (by rw [cs2]; decide) (by rw [cs2]; decide) (by rw [cs2]; decide) (by decide) ?_
        exact law_is st_is hL C1 hK hnw hj hn ih Pd Pm Ps Pg Pj Bt Bi Bf Br Rt Rl Rr Ra Wt Wa Wk Wd Wn We Wb Hv Mp Mv Mb Me Md Mdo Mk Mm Mta Mkn Mti Mrl Mrr Mt Mn Mw Mwl Mws Mf Mpa Mne hI hP hD hS hl
      rcases Decidable.em (op = 3) with cs3 | cs3
      · refine lv_tableIn (off := 227) (tgt := 259) hx hb dL_law_32 (by rw [cs3]; decide) (by rw [cs3]; decide) (by rw [cs3]; decide) (by decide) ?_
        exact law_looks st_looks hL C1 hK hnw hj hn ih Pd Pm Ps Pg Pj Bt Bi Bf Br Rt Rl Rr Ra Wt Wa Wk Wd Wn We Wb Hv Mp Mv Mb Me Md Mdo Mk Mm Mta Mkn Mti Mrl Mrr Mt Mn Mw Mwl Mws Mf Mpa Mne hI hP hD hS hl
      rcases Decidable.em (op = 4) with cs4 | cs4
      · refine lv_tableIn (off := 260) (tgt := 292) hx hb dL_law_32 (by rw [cs4]; decide) (by rw [cs4]; decide) (by rw [cs4]; decide) (by decide) ?_
        exact law_visible st_visible hL C1 hK hnw hj hn ih Pd Pm Ps Pg Pj Bt Bi Bf Br Rt Rl Rr Ra Wt Wa Wk Wd Wn We Wb Hv Mp Mv Mb Me Md Mdo Mk Mm Mta Mkn Mti Mrl Mrr Mt Mn Mw Mwl Mws Mf Mpa Mne hI hP hD hS hl
      rcases Decidable.em (op = 5) with cs5 | cs5
      · refine lv_tableIn (off := 283) (tgt := 315) hx hb dL_law_32 (by rw [cs5]; decide) (by rw [cs5]; decide) (by rw [cs5]; decide) (by decide) ?_
        exact law_round st_round hL C1 hK hnw hj hn ih Pd Pm Ps Pg Pj Bt Bi Bf Br Rt Rl Rr Ra Wt Wa Wk Wd Wn We Wb Hv Mp Mv Mb Me Md Mdo Mk Mm Mta Mkn Mti Mrl Mrr Mt Mn Mw Mwl Mws Mf Mpa Mne hI hP hD hS hl
      rcases Decidable.em (op = 6) with cs6 | cs6
      · refine lv_tableIn (off := 336) (tgt := 368) hx hb dL_law_32 (by rw [cs6]; decide) (by rw [cs6]; decide) (by rw [cs6]; decide) (by decide) ?_
        exact law_look st_look hL C1 hK hnw hj hn ih Pd Pm Ps Pg Pj Bt Bi Bf Br Rt Rl Rr Ra Wt Wa Wk Wd Wn We Wb Hv Mp Mv Mb Me Md Mdo Mk Mm Mta Mkn Mti Mrl Mrr Mt Mn Mw Mwl Mws Mf Mpa Mne hI hP hD hS hl
      rcases Decidable.em (op = 7) with cs7 | cs7
      · refine lv_tableIn (off := 359) (tgt := 391) hx hb dL_law_32 (by rw [cs7]; decide) (by rw [cs7]; decide) (by rw [cs7]; decide) (by decide) ?_
        exact law_ways st_ways hL C1 hK hnw hj hn ih Pd Pm Ps Pg Pj Bt Bi Bf Br Rt Rl Rr Ra Wt Wa Wk Wd Wn We Wb Hv Mp Mv Mb Me Md Mdo Mk Mm Mta Mkn Mti Mrl Mrr Mt Mn Mw Mwl Mws Mf Mpa Mne hI hP hD hS hl
      rcases Decidable.em (op = 8) with cs8 | cs8
      · refine lv_tableIn (off := 372) (tgt := 404) hx hb dL_law_32 (by rw [cs8]; decide) (by rw [cs8]; decide) (by rw [cs8]; decide) (by decide) ?_
        exact law_way st_way hL C1 hK hnw hj hn ih Pd Pm Ps Pg Pj Bt Bi Bf Br Rt Rl Rr Ra Wt Wa Wk Wd Wn We Wb Hv Mp Mv Mb Me Md Mdo Mk Mm Mta Mkn Mti Mrl Mrr Mt Mn Mw Mwl Mws Mf Mpa Mne hI hP hD hS hl
      rcases Decidable.em (op = 9) with cs9 | cs9
      · refine lv_tableIn (off := 405) (tgt := 437) hx hb dL_law_32 (by rw [cs9]; decide) (by rw [cs9]; decide) (by rw [cs9]; decide) (by decide) ?_
        exact law_touched st_touched hL C1 hK hnw hj hn ih Pd Pm Ps Pg Pj Bt Bi Bf Br Rt Rl Rr Ra Wt Wa Wk Wd Wn We Wb Hv Mp Mv Mb Me Md Mdo Mk Mm Mta Mkn Mti Mrl Mrr Mt Mn Mw Mwl Mws Mf Mpa Mne hI hP hD hS hl
      rcases Decidable.em (op = 10) with cs10 | cs10
      · refine lv_tableIn (off := 428) (tgt := 460) hx hb dL_law_32 (by rw [cs10]; decide) (by rw [cs10]; decide) (by rw [cs10]; decide) (by decide) ?_
        exact law_honest st_honest hL C1 hK hnw hj hn ih Pd Pm Ps Pg Pj Bt Bi Bf Br Rt Rl Rr Ra Wt Wa Wk Wd Wn We Wb Hv Mp Mv Mb Me Md Mdo Mk Mm Mta Mkn Mti Mrl Mrr Mt Mn Mw Mwl Mws Mf Mpa Mne hI hP hD hS hl
      rcases Decidable.em (op = 11) with cs11 | cs11
      · refine lv_tableIn (off := 451) (tgt := 483) hx hb dL_law_32 (by rw [cs11]; decide) (by rw [cs11]; decide) (by rw [cs11]; decide) (by decide) ?_
        exact law_best st_best hL C1 hK hnw hj hn ih Pd Pm Ps Pg Pj Bt Bi Bf Br Rt Rl Rr Ra Wt Wa Wk Wd Wn We Wb Hv Mp Mv Mb Me Md Mdo Mk Mm Mta Mkn Mti Mrl Mrr Mt Mn Mw Mwl Mws Mf Mpa Mne hI hP hD hS hl
      rcases Decidable.em (op = 12) with cs12 | cs12
      · refine lv_tableIn (off := 494) (tgt := 526) hx hb dL_law_32 (by rw [cs12]; decide) (by rw [cs12]; decide) (by rw [cs12]; decide) (by decide) ?_
        exact law_cover st_cover hL C1 hK hnw hj hn ih Pd Pm Ps Pg Pj Bt Bi Bf Br Rt Rl Rr Ra Wt Wa Wk Wd Wn We Wb Hv Mp Mv Mb Me Md Mdo Mk Mm Mta Mkn Mti Mrl Mrr Mt Mn Mw Mwl Mws Mf Mpa Mne hI hP hD hS hl
      rcases Decidable.em (op = 13) with cs13 | cs13
      · refine lv_tableIn (off := 507) (tgt := 539) hx hb dL_law_32 (by rw [cs13]; decide) (by rw [cs13]; decide) (by rw [cs13]; decide) (by decide) ?_
        exact law_lay st_lay hL C1 hK hnw hj hn ih Pd Pm Ps Pg Pj Bt Bi Bf Br Rt Rl Rr Ra Wt Wa Wk Wd Wn We Wb Hv Mp Mv Mb Me Md Mdo Mk Mm Mta Mkn Mti Mrl Mrr Mt Mn Mw Mwl Mws Mf Mpa Mne hI hP hD hS hl
      rcases Decidable.em (op = 14) with cs14 | cs14
      · refine lv_tableIn (off := 530) (tgt := 562) hx hb dL_law_32 (by rw [cs14]; decide) (by rw [cs14]; decide) (by rw [cs14]; decide) (by decide) ?_
        exact law_unlike st_unlike hL C1 hK hnw hj hn ih Pd Pm Ps Pg Pj Bt Bi Bf Br Rt Rl Rr Ra Wt Wa Wk Wd Wn We Wb Hv Mp Mv Mb Me Md Mdo Mk Mm Mta Mkn Mti Mrl Mrr Mt Mn Mw Mwl Mws Mf Mpa Mne hI hP hD hS hl
      rcases Decidable.em (op = 15) with cs15 | cs15
      · refine lv_tableIn (off := 553) (tgt := 585) hx hb dL_law_32 (by rw [cs15]; decide) (by rw [cs15]; decide) (by rw [cs15]; decide) (by decide) ?_
        exact law_touch st_touch hL C1 hK hnw hj hn ih Pd Pm Ps Pg Pj Bt Bi Bf Br Rt Rl Rr Ra Wt Wa Wk Wd Wn We Wb Hv Mp Mv Mb Me Md Mdo Mk Mm Mta Mkn Mti Mrl Mrr Mt Mn Mw Mwl Mws Mf Mpa Mne hI hP hD hS hl
      rcases Decidable.em (op = 16) with cs16 | cs16
      · refine lv_tableIn (off := 576) (tgt := 608) hx hb dL_law_32 (by rw [cs16]; decide) (by rw [cs16]; decide) (by rw [cs16]; decide) (by decide) ?_
        exact law_left st_left hL C1 hK hnw hj hn ih Pd Pm Ps Pg Pj Bt Bi Bf Br Rt Rl Rr Ra Wt Wa Wk Wd Wn We Wb Hv Mp Mv Mb Me Md Mdo Mk Mm Mta Mkn Mti Mrl Mrr Mt Mn Mw Mwl Mws Mf Mpa Mne hI hP hD hS hl
      rcases Decidable.em (op = 17) with cs17 | cs17
      · refine lv_tableIn (off := 589) (tgt := 621) hx hb dL_law_32 (by rw [cs17]; decide) (by rw [cs17]; decide) (by rw [cs17]; decide) (by decide) ?_
        exact law_leftWay st_leftWay hL C1 hK hnw hj hn ih Pd Pm Ps Pg Pj Bt Bi Bf Br Rt Rl Rr Ra Wt Wa Wk Wd Wn We Wb Hv Mp Mv Mb Me Md Mdo Mk Mm Mta Mkn Mti Mrl Mrr Mt Mn Mw Mwl Mws Mf Mpa Mne hI hP hD hS hl
      rcases Decidable.em (op = 18) with cs18 | cs18
      · refine lv_tableIn (off := 612) (tgt := 644) hx hb dL_law_32 (by rw [cs18]; decide) (by rw [cs18]; decide) (by rw [cs18]; decide) (by decide) ?_
        exact law_next st_next hL C1 hK hnw hj hn ih Pd Pm Ps Pg Pj Bt Bi Bf Br Rt Rl Rr Ra Wt Wa Wk Wd Wn We Wb Hv Mp Mv Mb Me Md Mdo Mk Mm Mta Mkn Mti Mrl Mrr Mt Mn Mw Mwl Mws Mf Mpa Mne hI hP hD hS hl
      rcases Decidable.em (op = 19) with cs19 | cs19
      · refine lv_tableIn (off := 625) (tgt := 657) hx hb dL_law_32 (by rw [cs19]; decide) (by rw [cs19]; decide) (by rw [cs19]; decide) (by decide) ?_
        exact law_tell st_tell hL C1 hK hnw hj hn ih Pd Pm Ps Pg Pj Bt Bi Bf Br Rt Rl Rr Ra Wt Wa Wk Wd Wn We Wb Hv Mp Mv Mb Me Md Mdo Mk Mm Mta Mkn Mti Mrl Mrr Mt Mn Mw Mwl Mws Mf Mpa Mne hI hP hD hS hl
      rcases Decidable.em (op = 20) with cs20 | cs20
      · refine lv_tableIn (off := 638) (tgt := 670) hx hb dL_law_32 (by rw [cs20]; decide) (by rw [cs20]; decide) (by rw [cs20]; decide) (by decide) ?_
        exact law_bear st_bear hL C1 hK hnw hj hn ih Pd Pm Ps Pg Pj Bt Bi Bf Br Rt Rl Rr Ra Wt Wa Wk Wd Wn We Wb Hv Mp Mv Mb Me Md Mdo Mk Mm Mta Mkn Mti Mrl Mrr Mt Mn Mw Mwl Mws Mf Mpa Mne hI hP hD hS hl
      rcases Decidable.em (op = 21) with cs21 | cs21
      · refine lv_tableIn (off := 661) (tgt := 693) hx hb dL_law_32 (by rw [cs21]; decide) (by rw [cs21]; decide) (by rw [cs21]; decide) (by decide) ?_
        exact law_tales st_tales hL C1 hK hnw hj hn ih Pd Pm Ps Pg Pj Bt Bi Bf Br Rt Rl Rr Ra Wt Wa Wk Wd Wn We Wb Hv Mp Mv Mb Me Md Mdo Mk Mm Mta Mkn Mti Mrl Mrr Mt Mn Mw Mwl Mws Mf Mpa Mne hI hP hD hS hl
      rcases Decidable.em (op = 22) with cs22 | cs22
      · refine lv_tableIn (off := 684) (tgt := 716) hx hb dL_law_32 (by rw [cs22]; decide) (by rw [cs22]; decide) (by rw [cs22]; decide) (by decide) ?_
        exact law_day st_day hL C1 hK hnw hj hn ih Pd Pm Ps Pg Pj Bt Bi Bf Br Rt Rl Rr Ra Wt Wa Wk Wd Wn We Wb Hv Mp Mv Mb Me Md Mdo Mk Mm Mta Mkn Mti Mrl Mrr Mt Mn Mw Mwl Mws Mf Mpa Mne hI hP hD hS hl
      rcases Decidable.em (op = 23) with cs23 | cs23
      · refine lv_tableIn (off := 697) (tgt := 729) hx hb dL_law_32 (by rw [cs23]; decide) (by rw [cs23]; decide) (by rw [cs23]; decide) (by decide) ?_
        exact law_move st_move hL C1 hK hnw hj hn ih Pd Pm Ps Pg Pj Bt Bi Bf Br Rt Rl Rr Ra Wt Wa Wk Wd Wn We Wb Hv Mp Mv Mb Me Md Mdo Mk Mm Mta Mkn Mti Mrl Mrr Mt Mn Mw Mwl Mws Mf Mpa Mne hI hP hD hS hl
      refine lv_tableOut (tgt := 772) hx hb dL_law_32 (gq_out 24 (fun k hk => by match k, hk with | 0, _ => exact cs0 | 1, _ => exact cs1 | 2, _ => exact cs2 | 3, _ => exact cs3 | 4, _ => exact cs4 | 5, _ => exact cs5 | 6, _ => exact cs6 | 7, _ => exact cs7 | 8, _ => exact cs8 | 9, _ => exact cs9 | 10, _ => exact cs10 | 11, _ => exact cs11 | 12, _ => exact cs12 | 13, _ => exact cs13 | 14, _ => exact cs14 | 15, _ => exact cs15 | 16, _ => exact cs16 | 17, _ => exact cs17 | 18, _ => exact cs18 | 19, _ => exact cs19 | 20, _ => exact cs20 | 21, _ => exact cs21 | 22, _ => exact cs22 | 23, _ => exact cs23 | k + 24, hk => omega)) (by decide) ?_
      refine lv_iinc (v := nI (j + 5)) (lv' := [(3, .int (nI (j + 5))), (0, .ref b), (1, .ref (ad 0)), (2, .ref (ad 16))]) hx hb dL_law_772 hl (k := 3) rfl (nI_add j 5) (by decide) rfl (fun ls hl => ?_)
      refine lv_goto (tgt := 18) hx hb dL_law_775 (by decide) ?_
      exact ih (j + 5) (by omega) (by omega) Pd Pm Ps Pg Pj Bt Bi Bf Br Rt Rl Rr Ra Wt Wa Wk Wd Wn We Wb Hv Mp Mv Mb Me Md Mdo Mk Mm Mta Mkn Mti Mrl Mrr Mt Mn Mw Mwl Mws Mf Mpa Mne hI _ _ hP hD hS ls (lv_sub hl [1, 2, 3, 0] rfl)
set_option maxHeartbeats 8000000 in
set_option maxRecDepth 100000 in
theorem law_start {Inv : InvT} (hst : Steps Inv) {p : Program} {e : Env} {s : State} {m : MethodId} {below : List Frame} {meth : Method} {c : Code} (l : Launch) {b L : Nat} {xs : Nat → Int32} (hL : L ≤ 2560) (C0 : lw_At p s m meth c b L xs) : W p l e room_1 s m #[Value.ref b] below meth c s.heap [] 0 0 (lw_Z below #[Value.ref b] s) (entryFrame m ([Value.ref b] : List Value).toArray 4) := by
  obtain ⟨hx, hb, hr, hml, hown, hts0, hX, hbl, hlocks, hgv⟩ := id C0
  have hown : s.vm.findClass RL = some m.cls := hown
  have hts : ∀ w ∈ wsL_law, w.before #[Value.ref b] s = true := fun w h => hts0 w (wsL_law_in w h)
  have hnw : gq_nw s := gq_nw_of hts0
  have hA : ∀ q : Nat, s.heap.size ≤ q → (fun q : Nat => s.heap.size ≤ q) q := fun _ h => h
  have hbA : ¬ (fun q : Nat => s.heap.size ≤ q) b := Nat.not_le.mpr hbl
  obtain ⟨c0, iS0, hKn0⟩ := u_known (C := RX0) (T := TX0) (N := 5) (n := 5) hts0 inX0 (hts (.instantiable RX0 5) (by decide +kernel))
  obtain ⟨c1, iS1, hKn1⟩ := u_known (C := RX1) (T := TX1) (N := 4) (n := 4) hts0 inX1 (hts (.instantiable RX1 4) (by decide +kernel))
  obtain ⟨c2, iS2, hKn2⟩ := u_known (C := RX2) (T := TX2) (N := 7) (n := 7) hts0 inX2 (hts (.instantiable RX2 7) (by decide +kernel))
  obtain ⟨c3, iS3, hKn3⟩ := u_known (C := RX3) (T := TX3) (N := 4) (n := 4) hts0 inX3 (hts (.instantiable RX3 4) (by decide +kernel))
  obtain ⟨c4, iS4, hKn4⟩ := u_known (C := RX4) (T := TX4) (N := 5) (n := 5) hts0 inX4 (hts (.instantiable RX4 5) (by decide +kernel))
  obtain ⟨c5, iS5, hKn5⟩ := u_known (C := RX5) (T := TX5) (N := 21) (n := 21) hts0 inX5 (hts (.instantiable RX5 21) (by decide +kernel))
  obtain ⟨D, hKc⟩ : ∃ (D : va_G), ∀ (k : Nat) (q : vw_C), vwCl[k]? = some q → u_Kn s q.1 q.2.1 q.2.2 (D.1 k) (D.2 k) := by
    refine ⟨(fun k => ([c0, c1, c2, c3, c4, c5] : List ClassId).getD k c0, fun k => ([iS0, iS1, iS2, iS3, iS4, iS5] : List (Nat → Nat)).getD k iS0), ?_⟩
    intro k q hq
    match k, hq with
    | 0, hq => cases hq; exact hKn0
    | 1, hq => cases hq; exact hKn1
    | 2, hq => cases hq; exact hKn2
    | 3, hq => cases hq; exact hKn3
    | 4, hq => cases hq; exact hKn4
    | 5, hq => cases hq; exact hKn5
    | k + 6, hq => simp [vwCl] at hq
  have hS : va_S (fun q : Nat => s.heap.size ≤ q) s.heap s.heap [] := va_S.rf
  have hK : va_K D vwCl [] s := ⟨hKc, fun k q h => by simp at h⟩
  have hP : va_P D vwCl [] s.heap := fun k q h => by simp at h
  have hD : va_D (fun q : Nat => s.heap.size ≤ q) [] := ⟨fun i j p q h => by simp at h, fun k q h => by simp at h⟩
  have hl := lv_entry ([.ref b]) (n := 4) (Nat.le_of_ble_eq_true rfl)
  rw [lg_entry_eq]
  generalize (lg_sl ([.ref b]) ++ List.replicate (4 - (lg_sl ([.ref b])).length) Slot.unset).toArray = ls at hl ⊢
  have hl : lv_has ls 4 [(0, .ref b)] := hl
  refine va_new (ci := 4) (fs := [.null, .null, .null, .null, .int 0]) (C := RX4) (T := TX4) (N := 5) hx hb hts inlX4 tyX4 tyX4_ok hown (hts (.classLink RL 7 RX4) (by decide +kernel)) (hts (.instantiable RX4 5) (by decide +kernel)) (hts (.initialized RX4) (by decide +kernel)) hK hP hD hS hA rfl (fun j hj => by rcases (show j = 0 ∨ j = 1 ∨ j = 2 ∨ j = 3 ∨ j = 4 by omega) with rfl | rfl | rfl | rfl | rfl <;> rfl) (Nat.le_of_ble_eq_true rfl) (Nat.le_of_ble_eq_true rfl) dL_law_0 (fun q0 H hP hD hS => ?_)
  have hP : va_P D vwCl [(q0, .inr (4, [.null, .null, .null, .null, .int 0]))] H := hP
  have hD : va_D (fun q : Nat => s.heap.size ≤ q) [(q0, .inr (4, [.null, .null, .null, .null, .int 0]))] := hD
  refine W.widen (k := 1) (n := 5) (Nat.le_of_ble_eq_true rfl) (Nat.le_of_ble_eq_true rfl) ?_
  refine lv_dup hx hb dL_law_3 rfl ?_
  have hw := hst.1
  refine gq_calln (wsN := fun u => wdH u.1 u.2.1 u.2.2.1 u.2.2.2.1 u.2.2.2.2.1 u.2.2.2.2.2.1 u.2.2.2.2.2.2.1 (fun _ => 0) (fun _ => 0) 0 u.2.2.2.2.2.2.2.1 u.2.2.2.2.2.2.2.2.1 u.2.2.2.2.2.2.2.2.2.1 u.2.2.2.2.2.2.2.2.2.2.1 u.2.2.2.2.2.2.2.2.2.2.2.1 (fun _ => 0) u.2.2.2.2.2.2.2.2.2.2.2.2.1 u.2.2.2.2.2.2.2.2.2.2.2.2.2.1 u.2.2.2.2.2.2.2.2.2.2.2.2.2.2.1 u.2.2.2.2.2.2.2.2.2.2.2.2.2.2.2.1 u.2.2.2.2.2.2.2.2.2.2.2.2.2.2.2.2.1 u.2.2.2.2.2.2.2.2.2.2.2.2.2.2.2.2.2.1 u.2.2.2.2.2.2.2.2.2.2.2.2.2.2.2.2.2.2) (va_runI (As := []) (rest := [.ref q0]) ⟨hx, hb, hml, hown, hts⟩ (c_X4_init l D q0 H.size _ hw) (cwI 0 hts gL_law_X4_init rfl rfl rfl (hts (.initialized RX4) (by decide +kernel)) (hts (.methodLink RL 9 yX4_init) (by decide +kernel)) (hts (.instanceMethod yX4_init) (by decide +kernel)) rfl (by decide +kernel) ⟨Nat.le_of_ble_eq_true rfl, Nat.le_of_ble_eq_true rfl⟩) (gq_preS hK [] rfl hP hD [0] rfl rfl hnw) rfl rfl hl.1 rfl (lv_room (Nat.le_of_ble_eq_true rfl)) dL_law_4 ⟨Nat.le_of_ble_eq_true rfl, Nat.le_of_ble_eq_true rfl⟩) hP hD hS hA [0] [] rfl rfl rfl (by decide) [0, 1, 2, 3, 4, 5, 6, 7, 8, 9, 10, 11, 12, 13, 14, 15] rfl (fun _ => rfl) (fun u H locs hw hK1 hP2 hD2 hS2 => ?_)
  obtain ⟨adH, ckH, Pd, Pm, Ps, Pg, Pj, Br, Rt, Rl, Rr, Ra, Wa, Wk, Wd, Wn, We, Wb, Hv⟩ := u
  obtain ⟨hq0, hI⟩ := hw
  have hq0 : adH 0 = q0 := hq0
  subst hq0
  refine W.widen (k := 16) (n := 2606) (Nat.le_of_ble_eq_true rfl) (Nat.le_of_ble_eq_true rfl) ?_
  have hP : va_P D vwCl (wdH adH ckH Pd Pm Ps Pg Pj (fun _ => 0) (fun _ => 0) 0 Br Rt Rl Rr Ra (fun _ => 0) Wa Wk Wd Wn We Wb Hv) H := hP2
  have hD : va_D (fun q : Nat => s.heap.size ≤ q) (wdH adH ckH Pd Pm Ps Pg Pj (fun _ => 0) (fun _ => 0) 0 Br Rt Rl Rr Ra (fun _ => 0) Wa Wk Wd Wn We Wb Hv) := hD2
  have hS := hS2
  have hK : va_K D vwCl (tyH ckH) s := hK1
  refine lv_astore_n (lv' := [(1, .ref (adH 0)), (0, .ref b)]) hx hb dL_law_7 rfl hl (by decide) rfl (fun ls hl => ?_)
  refine va_new (ci := 5) (fs := [.int 0, .int 0, .int 0, .int 0, .int 0, .null, .null, .null, .null, .null, .null, .null, .null, .null, .int 0, .null, .null, .null, .int 0, .null, .null]) (C := RX5) (T := TX5) (N := 21) hx hb hts inlX5 tyX5 tyX5_ok hown (hts (.classLink RL 10 RX5) (by decide +kernel)) (hts (.instantiable RX5 21) (by decide +kernel)) (hts (.initialized RX5) (by decide +kernel)) hK hP hD hS hA rfl (fun j hj => by rcases (show j = 0 ∨ j = 1 ∨ j = 2 ∨ j = 3 ∨ j = 4 ∨ j = 5 ∨ j = 6 ∨ j = 7 ∨ j = 8 ∨ j = 9 ∨ j = 10 ∨ j = 11 ∨ j = 12 ∨ j = 13 ∨ j = 14 ∨ j = 15 ∨ j = 16 ∨ j = 17 ∨ j = 18 ∨ j = 19 ∨ j = 20 by omega) with rfl | rfl | rfl | rfl | rfl | rfl | rfl | rfl | rfl | rfl | rfl | rfl | rfl | rfl | rfl | rfl | rfl | rfl | rfl | rfl | rfl <;> rfl) (Nat.le_of_ble_eq_true rfl) (Nat.le_of_ble_eq_true rfl) dL_law_8 (fun q1 H hP hD hS => ?_)
  refine W.widen (k := 17) (n := 2627) (Nat.le_of_ble_eq_true rfl) (Nat.le_of_ble_eq_true rfl) ?_
  refine lv_dup hx hb dL_law_11 rfl ?_
  refine gq_calln (wsN := fun u => (wdH adH ckH Pd Pm Ps Pg Pj (fun _ => 0) (fun _ => 0) 0 Br Rt Rl Rr Ra (fun _ => 0) Wa Wk Wd Wn We Wb Hv) ++ wdM u.1 u.2 2 255 3 0 0 (fun _ => 0) (fun _ => 0) (fun _ => 0) (fun _ => 0) (fun _ => 0) (fun _ => 0) (fun _ => 0) (fun _ => 0) (fun _ => 0) 0 (fun _ => 0) (fun _ => 0) (fun _ => 0) 0 (fun _ => 0) (fun _ => 0)) (va_runI (As := []) (rest := [.ref q1]) ⟨hx, hb, hml, hown, hts⟩ (c_X5_init l D q1 H.size) (cwI 0 hts gL_law_X5_init rfl rfl rfl (hts (.initialized RX5) (by decide +kernel)) (hts (.methodLink RL 12 yX5_init) (by decide +kernel)) (hts (.instanceMethod yX5_init) (by decide +kernel)) rfl (by decide +kernel) ⟨Nat.le_of_ble_eq_true rfl, Nat.le_of_ble_eq_true rfl⟩) (gq_preS hK [] rfl hP hD [16] rfl rfl hnw) rfl rfl hl.1 rfl (lv_room (Nat.le_of_ble_eq_true rfl)) dL_law_12 ⟨Nat.le_of_ble_eq_true rfl, Nat.le_of_ble_eq_true rfl⟩) hP hD hS hA [16] [0, 1, 2, 3, 4, 5, 6, 7, 8, 9, 10, 11, 12, 13, 14, 15] rfl rfl rfl (by decide) [0, 1, 2, 3, 4, 5, 6, 7, 8, 9, 10, 11, 12, 13, 14, 15, 16, 17, 18, 19, 20, 21, 22, 23, 24, 25, 26, 27, 28, 29, 30] rfl (fun _ => rfl) (fun u H locs hq1 hK1 hP2 hD2 hS2 => ?_)
  obtain ⟨adM, ckM⟩ := u
  have hq1 : adM 16 = q1 := hq1
  subst hq1
  have hS := hS2
  obtain ⟨ad, ead⟩ : ∃ f : Nat → Nat, f = fun k => ([adH 0, adH 1, adH 2, adH 3, adH 4, adH 5, adH 6, adH 7, adH 8, adH 9, adH 10, adH 11, adH 12, adH 13, adH 14, adH 15, adM 16, adM 17, adM 18, adM 19, adM 20, adM 21, adM 22, adM 23, adM 24, adM 25, adM 26, adM 27, adM 28, adM 29, adM 30] : List Nat).getD k 0 := ⟨_, rfl⟩
  obtain ⟨ck, eck⟩ : ∃ f : Nat → ClassId, f = fun k => ([ckH 0, ckH 1, ckH 2, ckH 3, ckH 4, ckH 5, ckH 6, ckH 7, ckH 8, ckH 9, ckH 10, ckH 11, ckH 12, ckH 13, ckH 14, ckH 15, ckM 16, ckM 17, ckM 18, ckM 19, ckM 20, ckM 21, ckM 22, ckM 23, ckM 24, ckM 25, ckM 26, ckM 27, ckM 28, ckM 29, ckM 30] : List ClassId).getD k (ckH 2) := ⟨_, rfl⟩
  have hP : va_P D vwCl (wdL ad ck Pd Pm Ps Pg Pj (fun _ => 0) (fun _ => 0) 0 Br Rt Rl Rr Ra (fun _ => 0) Wa Wk Wd Wn We Wb Hv 2 255 3 0 0 (fun _ => 0) (fun _ => 0) (fun _ => 0) (fun _ => 0) (fun _ => 0) (fun _ => 0) (fun _ => 0) (fun _ => 0) (fun _ => 0) 0 (fun _ => 0) (fun _ => 0) (fun _ => 0) 0 (fun _ => 0) (fun _ => 0)) H := by rw [ead, eck]; exact hP2
  have hD : va_D (fun q : Nat => s.heap.size ≤ q) (wdL ad ck Pd Pm Ps Pg Pj (fun _ => 0) (fun _ => 0) 0 Br Rt Rl Rr Ra (fun _ => 0) Wa Wk Wd Wn We Wb Hv 2 255 3 0 0 (fun _ => 0) (fun _ => 0) (fun _ => 0) (fun _ => 0) (fun _ => 0) (fun _ => 0) (fun _ => 0) (fun _ => 0) (fun _ => 0) 0 (fun _ => 0) (fun _ => 0) (fun _ => 0) 0 (fun _ => 0) (fun _ => 0)) := by rw [ead, eck]; exact hD2
  have hK : va_K D vwCl (tyL ck) s := by rw [eck]; exact hK.app hK1
  have e0 : adH 0 = ad 0 := by rw [ead]; rfl
  have e1 : adM 16 = ad 16 := by rw [ead]; rfl
  refine W.widen (k := 600000) (n := 7302250) (Nat.le_of_ble_eq_true rfl) (Nat.le_of_ble_eq_true rfl) ?_
  refine lv_astore_n (lv' := [(2, .ref (adM 16)), (1, .ref (adH 0)), (0, .ref b)]) hx hb dL_law_15 rfl hl (by decide) rfl (fun ls hl => ?_)
  refine lv_iconst (v := 0) hx hb dL_law_16 (by decide) ?_
  refine lv_istore_n (lv' := [(3, .int 0), (2, .ref (adM 16)), (1, .ref (adH 0)), (0, .ref b)]) hx hb dL_law_17 rfl hl (by decide) rfl (fun ls hl => ?_)
  rw [e0, e1] at hl
  exact law_loop hst hL C0 hK hnw (L + 1) 0 (Nat.zero_le L) (by omega) Pd Pm Ps Pg Pj (fun _ => 0) (fun _ => 0) 0 Br Rt Rl Rr Ra (fun _ => 0) Wa Wk Wd Wn We Wb Hv 2 255 3 0 0 (fun _ => 0) (fun _ => 0) (fun _ => 0) (fun _ => 0) (fun _ => 0) (fun _ => 0) (fun _ => 0) (fun _ => 0) (fun _ => 0) 0 (fun _ => 0) (fun _ => 0) (fun _ => 0) 0 (fun _ => 0) (fun _ => 0) hI _ _ hP hD hS ls (lv_sub hl [3, 2, 1, 0] rfl)

