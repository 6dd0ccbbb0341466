/-! calls that only hand on -/
theorem gi_dec {W : Int32} {post : Int32 → Prop} (h : post W) : wp_X2_decoySet W post := h
theorem gi_fg {B : Int32} {post : Int32 → Prop} (h : post 0) : wp_X3_forget B post := h
theorem gi_size {W : Int32} {post : Int32 → Prop} (h : post W) : wp_X0_size W post := h
theorem gi_gate {W : Int32} {post : Int32 → Prop} (h : post W) : wp_X0_gateSet W post := h
theorem gi_jewel {W : Int32} {post : Int32 → Prop} (h : post W) : wp_X0_jewelSet W post := h
theorem gi_tc {W : Int32} {post : Int32 → Prop} (h : post W) : wp_X2_touchCount W post := h
theorem gi_today {W : Int32} {post : Int32 → Prop} (h : post W) : wp_X2_today W post := h
theorem gi_bears {W : Int32} {post : Int32 → Prop} (h : post W) : wp_X2_bears W post := h
/-! sets with a place more or less -/
theorem tb_pow (a p : Nat) : (2 ^ a).testBit p = decide (a = p) := Nat.testBit_two_pow
theorem tb_set (S a p : Nat) : (S ||| 2 ^ a).testBit p = (S.testBit p || decide (a = p)) := by rw [Nat.testBit_or, tb_pow]
def clr (S a : Nat) : Nat := S &&& cmp9 (2 ^ a)
theorem tb_clr {S a : Nat} (hS : S < 512) (p : Nat) : (clr S a).testBit p = (S.testBit p && !decide (a = p)) := by
  rw [clr, Nat.testBit_and]
  rcases Nat.lt_or_ge p 9 with q | q
  · rw [tb_cmp9 _ q, tb_pow]
  · rw [tb_out hS q, Bool.false_and, Bool.false_and]
theorem clr_lt {S a B : Nat} (h : S < B) : clr S a < B := Nat.lt_of_le_of_lt Nat.and_le_left h
theorem set_lt {S a N : Nat} (hS : S < 2 ^ N) (ha : a < N) : S ||| 2 ^ a < 2 ^ N := Nat.or_lt_two_pow hS (Nat.pow_lt_pow_right (by decide) ha)
/-- the kinds' two sets, behind 'is' -/
theorem setKind_in {a k G J : Nat} (ha : a < 9) (hk : k ≤ 2) (hG : G < 512) (hJ : J < 512) {post : Int32 → Int32 → Prop} (h : post (nI (if k = 1 then G ||| 2 ^ a else clr G a)) (nI (if k = 2 then J ||| 2 ^ a else clr J a))) : wp_X0_setKind (nI a) (nI k) (nI G) (nI J) post := by
  refine sp_setOf ha ?_
  have e1 : ∀ S, S < 512 → nI S &&& (nI (2 ^ a) ^^^ (-1)) = nI (clr S a) := fun S hS => nI_wo hS (pow9 ha)
  rcases (show k = 0 ∨ k = 1 ∨ k = 2 by omega) with rfl | rfl | rfl
  · exact gi_f (by decide) (gi_r (e1 G hG) (gi_f (by decide) (gi_r (e1 J hJ) h)))
  · exact gi_t rfl (gi_r (fa_or _ _) (gi_f (by decide) (gi_r (e1 J hJ) h)))
  · exact gi_f (by decide) (gi_r (e1 G hG) (gi_t rfl (gi_r (fa_or _ _) h)))
theorem st_is : Step_is Inv := by
  intro Pd Pm Ps Pg Pj Bt Bi Bf Br Rt Rl Rr Ra Wt Wa Wk Wd Wn We Wb Hv Mp Mv Mb Me Md Mdo Mk Mm Mta Mkn Mti Mrl Mrr Mt Mn Mw Mwl Mws Mf Mpa Mne hI p1 p2
  have hI0 := hI
  obtain ⟨N, dS, G, J, dec, tn, vis, dy, mk, rt, rl, rw, hP, hM, hW, hR, hB⟩ := hI
  obtain ⟨⟨hN2, hN9⟩, hPs, hMp, hPd, hdS, hdN, hMdo, hG, hJ, hGJ, hPg, hPj, hMk⟩ := hP
  obtain ⟨w1, w2, w3, w4, w5⟩ := hW
  subst hPs hMp hPg hPj w2 w3
  have h512 := pow2N hN9
  rcases pk_ix p1 (n := N) (by omega) with c | c | ⟨a, ha, rfl⟩
  · exact place_out (Or.inl c) (gi_t rfl (mplace_out hN2 hN9 (Or.inl c) (gi_t rfl ⟨rfl, hI0⟩)))
  · exact place_out (Or.inr c) (gi_t rfl (mplace_out hN2 hN9 (Or.inr c) (gi_t rfl ⟨rfl, hI0⟩)))
  · refine place_in ha hN9 (gi_f (by decide) ?_)
    rcases pk_ix p2 (n := 3) (by decide) with c | c | ⟨k, hk, rfl⟩
    · exact gi_t c (mplace_in ha hN9 (gi_f (by decide) (isIn_f (Or.inl c) (gi_t rfl ⟨rfl, hI0⟩))))
    · have c2 := lt_of_S (b := 2) (by decide) c
      refine gi_c (fun c1 => ?_) (fun c1 => gi_t c2 ?_)
      · exact mplace_in ha hN9 (gi_f (by decide) (isIn_f (Or.inr c2) (gi_t rfl ⟨rfl, hI0⟩)))
      · exact mplace_in ha hN9 (gi_f (by decide) (isIn_f (Or.inr c2) (gi_t rfl ⟨rfl, hI0⟩)))
    · refine gi_f (nlt0 (by omega)) (gi_f (fun q => absurd ((nI_ltI (a := 2) (by decide) (by omega)).mp q) (by omega)) ?_)
      refine gi_dec ?_
      refine sp_has (S := dec) (k := a) (by omega) (by omega) ?_
      refine gi_b (fun hb => ?_) (fun hb => ?_)
      · refine setKind_in (by omega) (by omega) (by omega) (by omega) ?_
        refine gi_fg ?_
        refine mplace_in ha hN9 (gi_f (by decide) (isIn_t (a := 0) (b := 2) (Nat.zero_le k) (by omega) (by decide) (gi_f (by decide) ?_)))
        refine mdecoy (S := dec) (by omega) (by omega) ?_
        rw [hb]
        refine gi_t rfl ⟨vp_in_nI (by omega) (by decide), gi_n ⟨rfl, ?_⟩⟩
        rw [cl9 (by omega)]
        have tG : ∀ p, (if k = 1 then G ||| 2 ^ a else clr G a).testBit p = if p = a then decide (k = 1) else G.testBit p := by
          intro p
          rcases Nat.decEq k 1 with e | e
          · rw [if_neg e, tb_clr (by omega)]
            rcases Nat.decEq p a with e2 | e2
            · rw [if_neg e2, decide_eq_false (fun h => e2 h.symm)]; simp
            · subst e2; rw [if_pos rfl, decide_eq_false e]; simp
          · rw [if_pos e, tb_set]
            rcases Nat.decEq p a with e2 | e2
            · rw [if_neg e2, decide_eq_false (fun h => e2 h.symm)]; simp
            · subst e2; rw [if_pos rfl, decide_eq_true e]; simp
        have tJ : ∀ p, (if k = 2 then J ||| 2 ^ a else clr J a).testBit p = if p = a then decide (k = 2) else J.testBit p := by
          intro p
          rcases Nat.decEq k 2 with e | e
          · rw [if_neg e, tb_clr (by omega)]
            rcases Nat.decEq p a with e2 | e2
            · rw [if_neg e2, decide_eq_false (fun h => e2 h.symm)]; simp
            · subst e2; rw [if_pos rfl, decide_eq_false e]; simp
          · rw [if_pos e, tb_set]
            rcases Nat.decEq p a with e2 | e2
            · rw [if_neg e2, decide_eq_false (fun h => e2 h.symm)]; simp
            · subst e2; rw [if_pos rfl, decide_eq_true e]; simp
        have bG : (if k = 1 then G ||| 2 ^ a else clr G a) < 2 ^ N := by
          rcases Nat.decEq k 1 with e | e
          · rw [if_neg e]; exact clr_lt hG
          · rw [if_pos e]; exact set_lt hG ha
        have bJ : (if k = 2 then J ||| 2 ^ a else clr J a) < 2 ^ N := by
          rcases Nat.decEq k 2 with e | e
          · rw [if_neg e]; exact clr_lt hJ
          · rw [if_pos e]; exact set_lt hJ ha
        generalize (if k = 1 then G ||| 2 ^ a else clr G a) = G' at tG bG ⊢
        generalize (if k = 2 then J ||| 2 ^ a else clr J a) = J' at tJ bJ ⊢
        refine ⟨N, dS, G', J', dec, tn, vis, dy, mk, rt, rl, rw, ⟨⟨hN2, hN9⟩, rfl, rfl, hPd, hdS, hdN, hMdo, bG, bJ, ?_, rfl, rfl, ?_⟩, hM, ⟨w1, rfl, rfl, ?_, w5⟩, hR, Or.inl rfl⟩
        · intro p hp
          rw [tG] at hp
          rw [tJ]
          rcases Nat.decEq p a with e2 | e2
          · rw [if_neg e2] at hp ⊢; exact hGJ p hp
          · rw [if_pos e2] at hp ⊢
            have h1 : k = 1 := of_decide_eq_true hp
            exact decide_eq_false (by omega)
        · intro p hp
          rcases Nat.decEq p a with e2 | e2
          · rw [upd_n _ _ e2, hMk p hp, kd, kd, tG, tJ, if_neg e2, if_neg e2]
          · subst e2
            rw [upd_s, kd, tG, tJ, if_pos rfl, if_pos rfl]
            rcases (show k = 0 ∨ k = 1 ∨ k = 2 by omega) with rfl | rfl | rfl <;> rfl
        · intro p hp
          have hne : p ≠ a := fun e => by rw [e, hb] at hp; exact absurd hp (by decide)
          rw [tG, tJ, if_neg hne, if_neg hne]
          exact w4 p hp
      · refine mplace_in ha hN9 (gi_f (by decide) (isIn_t (a := 0) (b := 2) (Nat.zero_le k) (by omega) (by decide) (gi_f (by decide) ?_)))
        refine mdecoy (S := dec) (by omega) (by omega) ?_
        rw [hb]
        exact gi_f (by decide) ⟨rfl, hI0⟩
theorem doorSet_sp {a N d : Nat} (ha : a < N) (hN9 : N ≤ 9) {Pd : Nat → Int32} (hPd : Pd a = nI d) {post : Int32 → Prop} (h : post (nI d)) : wp_X0_doorSet (nI a) Pd (nI N) post := by
  refine place_in ha hN9 ?_
  refine gi_f (by decide) ⟨vp_in_nI (by omega) (by decide), ?_⟩
  rw [cl9 (by omega), hPd]
  exact h
theorem zb_nar {x : Int32} (h : gq_zb x) : vp_nar .boolean x = x := by rcases h with rfl | rfl <;> rfl
theorem st_door : Step_door Inv := by
  intro Pd Pm Ps Pg Pj Bt Bi Bf Br Rt Rl Rr Ra Wt Wa Wk Wd Wn We Wb Hv Mp Mv Mb Me Md Mdo Mk Mm Mta Mkn Mti Mrl Mrr Mt Mn Mw Mwl Mws Mf Mpa Mne hI p1 p2 p3 hz3
  have hI0 := hI
  obtain ⟨N, dS, G, J, dec, tn, vis, dy, mk, rt, rl, rw, hP, hM, hW, hR, hB⟩ := hI
  obtain ⟨⟨hN2, hN9⟩, hPs, hMp, hPd, hdS, hdN, hMdo, hG, hJ, hGJ, hPg, hPj, hMk⟩ := hP
  subst hPs hMp
  have h512 := pow2N hN9
  rcases pk_ix p1 (n := N) (by omega) with c | c | ⟨a, ha, rfl⟩
  · exact place_out (Or.inl c) (gi_t rfl (mplace_out hN2 hN9 (Or.inl c) (gi_t rfl ⟨rfl, hI0⟩)))
  · exact place_out (Or.inr c) (gi_t rfl (mplace_out hN2 hN9 (Or.inr c) (gi_t rfl ⟨rfl, hI0⟩)))
  · refine place_in ha hN9 (gi_f (by decide) ?_)
    rcases pk_ix p2 (n := N) (by omega) with c | c | ⟨b, hb, rfl⟩
    · exact place_out (Or.inl c) (gi_t rfl (mplace_in ha hN9 (gi_f (by decide) (mplace_out hN2 hN9 (Or.inl c) (gi_t rfl ⟨rfl, hI0⟩)))))
    · exact place_out (Or.inr c) (gi_t rfl (mplace_in ha hN9 (gi_f (by decide) (mplace_out hN2 hN9 (Or.inr c) (gi_t rfl ⟨rfl, hI0⟩)))))
    · refine place_in hb hN9 (gi_f (by decide) ?_)
      rcases Nat.decEq a b with hab | hab
      · have hne : ¬ nI a = nI b := fun e => hab ((nI_eq (by omega) (by omega)).mp e)
        refine gi_f hne ?_
        have hda := hdS a
        refine doorSet_sp ha hN9 (hPd a (by omega)) ?_
        refine sp_has (S := dS a) (k := b) (by omega) (by omega) ⟨gi_zb _, ?_⟩
        have ix : (9 : Int32) * nI a + nI b = nI (9 * a + b) := by rw [show (9 : Int32) = nI 9 from rfl, pk_mul, nI_add]
        have hmd := hMdo a b (by omega) (by omega)
        have hmod : ∀ post : Int32 → (Nat → Int32) → Prop, (∀ _ : (if (dS a).testBit b then (1 : Int32) else 0) = p3, post 0 Mdo) → (∀ _ : ¬ (if (dS a).testBit b then (1 : Int32) else 0) = p3, post 1 (upd Mdo (9 * a + b) p3)) → wp_X5_door (nI a) (nI b) p3 (nI N) Mdo post := by
          intro post h0 h1
          refine mplace_in ha hN9 (gi_f (by decide) (mplace_in hb hN9 (gi_f (by decide) (gi_f hne ?_))))
          rw [ix, cl9 (by omega), hmd, zb_nar hz3]
          exact ⟨vp_in_nI (by omega) (by decide), gi_c h0 (fun q => ⟨vp_in_nI (by omega) (by decide), gi_n (h1 q)⟩)⟩
        refine gi_c (fun e => hmod _ (fun _ => ⟨rfl, hI0⟩) (fun q => absurd e q)) (fun e => ?_)
        refine place_in ha hN9 (gi_f (by decide) (place_in hb hN9 (gi_f (by decide) ⟨vp_in_nI (by omega) (by decide), ?_⟩)))
        refine sp_setOf (by omega) ⟨vp_in_nI (by omega) (by decide), gi_n ?_⟩
        rw [cl9 (by omega), hPd a (by omega), fb_xorI]
        refine gi_fg ?_
        refine hmod _ (fun q => absurd q e) (fun _ => ?_)
        refine ⟨rfl, ?_⟩
        have hp3 : p3 = if !(dS a).testBit b then 1 else 0 := by
          cases hd : (dS a).testBit b <;> rw [hd] at e <;> rcases hz3 with rfl | rfl <;> first | rfl | exact absurd rfl e
        refine ⟨N, fun x => if x = a then dS a ^^^ 2 ^ b else dS x, G, J, dec, tn, vis, dy, mk, rt, rl, rw, ⟨⟨hN2, hN9⟩, rfl, rfl, ?_, ?_, ?_, ?_, hG, hJ, hGJ, hPg, hPj, hMk⟩, hM, hW, hR, Or.inl rfl⟩
        · intro x hx
          rcases Nat.decEq x a with q | q
          · rw [upd_n _ _ q]; simp only [if_neg q]; exact hPd x hx
          · rw [q, upd_s]; simp only [if_true]
        · intro x
          show (if x = a then dS a ^^^ 2 ^ b else dS x) < 2 ^ N
          rcases Nat.decEq x a with q | q
          · rw [if_neg q]; exact hdS x
          · rw [if_pos q]; exact Nat.xor_lt_two_pow hda (Nat.pow_lt_pow_right (by decide) hb)
        · intro x hx
          show (if x = a then dS a ^^^ 2 ^ b else dS x) = 0
          rw [if_neg (by omega)]
          exact hdN x hx
        · intro x y hx hy
          show upd Mdo (9 * a + b) p3 (9 * x + y) = if (if x = a then dS a ^^^ 2 ^ b else dS x).testBit y then 1 else 0
          rcases Nat.decEq x a with q | q
          · rw [upd_n _ _ (by omega), if_neg q]; exact hMdo x y hx hy
          · subst q
            rw [if_pos rfl, Nat.testBit_xor, tb_pow]
            rcases Nat.decEq y b with q2 | q2
            · rw [upd_n _ _ (by omega), decide_eq_false (fun h => q2 h.symm), Bool.xor_false]
              exact hMdo x y hx hy
            · rw [q2, upd_s, decide_eq_true rfl, Bool.xor_true]
              exact hp3
      · subst hab
        exact gi_t rfl (mplace_in ha hN9 (gi_f (by decide) (mplace_in ha hN9 (gi_f (by decide) (gi_t rfl ⟨rfl, hI0⟩)))))
/-! a house anew -/
theorem gs_zero' {f : Nat → Nat} {n : Nat} (h : ∀ k, k < n → f k = 0) : gs f n = 0 := (gs_cong h).trans (gs_zero n)
theorem inv_fresh {Pd Pm Bt Bi Rt Rl Rr Ra Wt Wa Wk Mdo Mk Mm Mta Mkn Mti Mrl Mrr Mt Mw Mwl Mws Mpa Mne : Nat → Int32} {Bf Mf : Int32} {N : Nat} (hN2 : 2 ≤ N) (hN9 : N ≤ 9) (hPd : ∀ a, a < 9 → Pd a = 0) (hPm : ∀ a, a < 9 → Pm a = 0) (hRt : ∀ a, a < 6 → Rt a = 0) (hRl : ∀ a, a < 6 → Rl a = 0) (hRa : ∀ a, a < 9 → Ra a = 0) (hWa : ∀ a, a < 9 → Wa a = 0) (hWk : ∀ a, a < 9 → Wk a = 0) (hMdo : ∀ a, a < 81 → Mdo a = 0) (hMk : ∀ a, a < 9 → Mk a = 0) (hMm : ∀ a, a < 9 → Mm a = 0) (hMta : ∀ a, a < 9 → Mta a = 0) (hMkn : ∀ a, a < 9 → Mkn a = 0) (hMti : ∀ a, a < 6 → Mti a = 0) (hMrl : ∀ a, a < 6 → Mrl a = 0) :
    Inv Pd Pm (nI N) 0 0 Bt Bi Bf 0 Rt Rl Rr Ra Wt Wa Wk 0 0 0 3 255 (nI N) 255 3 0 0 Mdo Mk Mm Mta Mkn Mti Mrl Mrr Mt 0 Mw Mwl Mws Mf Mpa Mne := by
  have hp : 0 < 2 ^ N := Nat.pow_pos (by decide)
  refine ⟨N, fun _ => 0, 0, 0, 0, 0, 255, 0, fun _ => 0, fun _ => 0, fun _ => 0, fun _ _ => 0, ⟨⟨hN2, hN9⟩, rfl, rfl, fun a ha => hPd a ha, fun _ => hp, fun _ _ => rfl, ?_, hp, hp, ?_, rfl, rfl, ?_⟩, ⟨fun p hp => ⟨hPm p hp, hMm p hp⟩, fun _ => show (0 : Nat) < 256 by decide, rfl, rfl, by decide⟩, ⟨hp, rfl, rfl, ?_, by decide, rfl, rfl, ?_, rfl, rfl, rfl, by decide, ?_, ?_, ?_⟩, ⟨?_, fun _ => ⟨Nat.zero_le _, Nat.zero_le _⟩, ?_, ?_⟩, Or.inl rfl⟩
  · intro a b ha hb
    rw [hMdo _ (by omega), Nat.zero_testBit]
    rfl
  · intro p _
    exact Nat.zero_testBit p
  · intro p hp
    rw [hMk p hp, kd, Nat.zero_testBit]
    rfl
  · intro p h
    rw [Nat.zero_testBit] at h
    exact absurd h (by decide)
  · intro i h
    exact absurd h (by omega)
  · intro p h
    rw [hWa p (by omega), hMta p (by omega)]
  · intro p h
    rw [hWk p (by omega), hMkn p (by omega)]
  · intro p _ h
    exact hWk p h
  · intro r hr
    exact ⟨hRt r hr, hMti r hr, hRl r hr, hMrl r hr⟩
  · intro r i _ h
    exact absurd h (Nat.not_lt_zero _)
  · intro p hp
    rw [hRa p hp]
    have e : hon (fun _ => 0) (fun _ => 0) (fun _ _ => 0) p = 0 := gs_zero' (fun k _ => rfl)
    rw [e]
    rfl
theorem fill_lt {n k : Nat} {f : Nat → Int32} {x : Int32} (h : k < n) : gq_fill n f x k = x := if_pos h
theorem gf_fill (x : Int32) (f : Nat → Int32) : ∀ n, gfold (fun i (s : Nat → Int32) => upd s i x) n f = gq_fill n f x
  | 0 => (gq_fill_0 f x).symm
  | n + 1 => by rw [gfold, gf_fill x f n, gq_fill_s]
theorem gf_fill4 (a b c d : Nat → Int32) : ∀ n, gfold (fun i (s : (Nat → Int32) × (Nat → Int32) × (Nat → Int32) × (Nat → Int32)) => (upd s.1 i 0, upd s.2.1 i 0, upd s.2.2.1 i 0, upd s.2.2.2 i 0)) n (a, b, c, d) = (gq_fill n a 0, gq_fill n b 0, gq_fill n c 0, gq_fill n d 0)
  | 0 => by simp only [gfold, gq_fill_0]
  | n + 1 => by rw [gfold, gf_fill4 a b c d n]; simp only [gq_fill_s]
theorem gf_fill2 (a b : Nat → Int32) : ∀ n, gfold (fun i (s : (Nat → Int32) × (Nat → Int32)) => (upd s.1 i 0, upd s.2 i 0)) n (a, b) = (gq_fill n a 0, gq_fill n b 0)
  | 0 => by simp only [gfold, gq_fill_0]
  | n + 1 => by rw [gfold, gf_fill2 a b n]; simp only [gq_fill_s]
theorem st_init : Step_init Inv := by
  simp only [Step_init, wp_X4_beginAnew, wp_X0_clear, wp_X3_forget, wp_X1_clear, wp_X2_clear, gq_nm]
  exact inv_fresh (N := 2) (by decide) (by decide) (fun a ha => fill_lt ha) (fun a ha => fill_lt ha) (fun a ha => fill_lt ha) (fun a ha => fill_lt ha) (fun a ha => fill_lt ha) (fun a ha => fill_lt ha) (fun a ha => fill_lt ha) (fun _ _ => rfl) (fun _ _ => rfl) (fun _ _ => rfl) (fun _ _ => rfl) (fun _ _ => rfl) (fun _ _ => rfl) (fun _ _ => rfl)
theorem mhouse_in {N : Nat} (hN2 : 2 ≤ N) (hN9 : N ≤ 9) {Mp Mv Mb Me Md : Int32} {Mdo Mk Mm Mta Mkn Mti Mrl : Nat → Int32} {Mn : Int32} {post : Int32 → Int32 → Int32 → Int32 → Int32 → Int32 → (Nat → Int32) → (Nat → Int32) → (Nat → Int32) → (Nat → Int32) → (Nat → Int32) → (Nat → Int32) → (Nat → Int32) → Int32 → Prop} (h : post 1 (nI N) 255 3 0 0 (gq_fill 81 Mdo 0) (gq_fill 9 Mk 0) (gq_fill 9 Mm 0) (gq_fill 9 Mta 0) (gq_fill 9 Mkn 0) (gq_fill 6 Mti 0) (gq_fill 6 Mrl 0) 0) : wp_X5_house (nI N) Mp Mv Mb Me Md Mdo Mk Mm Mta Mkn Mti Mrl Mn post := by
  refine isIn_t (a := 2) (b := 9) hN2 hN9 (by decide) (gi_f (by decide) ?_)
  refine gl_for0 (Post := fun s => _) (fun n i s => wl_X5_house_46 _ n (nI i) s) 81 (fun i s => upd s i 0) Mdo ?_ (fun n s hp => gi_t (by decide) hp) ?_
  · intro n i s hi hn
    refine gi_f (nI_ge (b := 81) hi (by decide)) ⟨vp_in_nI hi (by decide), ?_⟩
    rw [cl9 (by omega), zb_nar gq_zb0]
    exact gi_n (gi_r (nI_1 i) hn)
  · rw [gf_fill]
    refine gl_for0 (Post := fun s => _) (fun n i (s : (Nat → Int32) × (Nat → Int32) × (Nat → Int32) × (Nat → Int32)) => wl_X5_house_67 _ n (nI i) s.1 s.2.1 s.2.2.1 s.2.2.2) 9 (fun i s => (upd s.1 i 0, upd s.2.1 i 0, upd s.2.2.1 i 0, upd s.2.2.2 i 0)) (Mk, Mm, Mta, Mkn) ?_ (fun n s hp => gi_t (by decide) hp) ?_
    · intro n i s hi hn
      refine gi_f (nI_ge (b := 9) hi (by decide)) ?_
      rw [cl9 (by omega)]
      have hv : vp_in (nI i) 9 := vp_in_nI hi (by decide)
      exact ⟨hv, gi_n ⟨hv, gi_n ⟨hv, gi_n ⟨hv, gi_n (gi_r (nI_1 i) hn)⟩⟩⟩⟩
    · rw [gf_fill4]
      refine gl_for0 (Post := fun s => post 1 (nI N) 255 3 0 0 (gq_fill 81 Mdo 0) (gq_fill 9 Mk 0) (gq_fill 9 Mm 0) (gq_fill 9 Mta 0) (gq_fill 9 Mkn 0) s.1 s.2 0) (fun n i (s : (Nat → Int32) × (Nat → Int32)) => wl_X5_house_109 (nI N) (gq_fill 81 Mdo 0) (gq_fill 9 Mk 0) (gq_fill 9 Mm 0) (gq_fill 9 Mta 0) (gq_fill 9 Mkn 0) post n (nI i) s.1 s.2) 6 (fun i s => (upd s.1 i 0, upd s.2 i 0)) (Mti, Mrl) ?_ (fun n s hp => gi_t (by decide) hp) ?_
      · intro n i s hi hn
        refine gi_f (nI_ge (b := 6) hi (by decide)) ?_
        rw [cl9 (by omega)]
        have hv : vp_in (nI i) 6 := vp_in_nI hi (by decide)
        exact ⟨hv, gi_n ⟨hv, gi_n (gi_r (nI_1 i) hn)⟩⟩
      · rw [gf_fill2]
        exact h
theorem st_house : Step_house Inv := by
  intro Pd Pm Ps Pg Pj Bt Bi Bf Br Rt Rl Rr Ra Wt Wa Wk Wd Wn We Wb Hv Mp Mv Mb Me Md Mdo Mk Mm Mta Mkn Mti Mrl Mrr Mt Mn Mw Mwl Mws Mf Mpa Mne hI p1
  rcases pk_ix p1 (n := 10) (by decide) with c | c | ⟨N, hN, rfl⟩
  · have c1 : p1 < 2 := by
      rw [fa_lt] at c ⊢
      exact Int.lt_trans c (by decide)
    exact gi_t c1 (isIn_f (Or.inl c1) (gi_t rfl ⟨rfl, hI⟩))
  · have c9 : (9 : Int32) < p1 := lt_of_S (b := 9) (by decide) c
    have c2 : ¬ p1 ≤ 9 := by
      rw [fa_lt] at c9
      rw [fa_le]
      omega
    refine gi_c (fun _ => isIn_f (Or.inr c9) (gi_t rfl ⟨rfl, hI⟩)) (fun _ => gi_f c2 (isIn_f (Or.inr c9) (gi_t rfl ⟨rfl, hI⟩)))
  · rcases Nat.lt_or_ge N 2 with q | q
    · have c1 : nI N < 2 := nI_lt (b := 2) q (by decide)
      exact gi_t c1 (isIn_f (Or.inl c1) (gi_t rfl ⟨rfl, hI⟩))
    · refine gi_f (nI_nlt (b := 2) q (by omega)) (gi_t (nI_le (b := 9) (by omega) (by decide)) ?_)
      refine mhouse_in q (by omega) ⟨rfl, ?_⟩
      exact inv_fresh q (by omega) (fun a ha => fill_lt ha) (fun a ha => fill_lt ha) (fun a ha => fill_lt ha) (fun a ha => fill_lt ha) (fun a ha => fill_lt ha) (fun a ha => fill_lt ha) (fun a ha => fill_lt ha) (fun a ha => fill_lt ha) (fun a ha => fill_lt ha) (fun a ha => fill_lt ha) (fun a ha => fill_lt ha) (fun a ha => fill_lt ha) (fun a ha => fill_lt ha) (fun a ha => fill_lt ha)
