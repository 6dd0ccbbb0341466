/-! questions to the ways -/
theorem count_in {WL : List (List Nat)} {Bt Bi : Nat → Int32} {Bf : Int32} (hl : WL.length ≤ 2000) (hB : BK WL rSub Bt Bi Bf) {post : Int32 → Prop} (h : post (nI WL.length)) : wp_X3_count Bf post := by
  have e : Bf = nI WL.length := by rw [hB.1]; congr 1; omega
  rw [e]
  exact gi_t (nI_le (b := 2000) hl (by decide)) h
theorem count_out {WL : List (List Nat)} {Bt Bi : Nat → Int32} {Bf : Int32} (hl : 2000 < WL.length) (hB : BK WL rSub Bt Bi Bf) {post : Int32 → Prop} (h : post (-1)) : wp_X3_count Bf post := by
  have e : Bf = nI 2001 := by rw [hB.1]; congr 1; omega
  rw [e]
  unfold wp_X3_count
  rw [if_neg (show ¬ nI 2001 ≤ 2000 by decide)]
  exact h
theorem nI_m1 {n : Nat} (h : n < 2 ^ 31) : ¬ nI n = -1 := by
  intro e
  have h1 := nI_toInt h
  rw [e] at h1
  have h2 : (-1 : Int32).toInt = -1 := by decide
  omega
def tch (WL : List (List Nat)) (S : Nat) : Nat := cntP (fun w => decide (wset w &&& S ≠ 0)) WL
theorem cmp9_2 {S : Nat} (hS : S < 512) : cmp9 (cmp9 S) = S := by
  refine tb_ext (cmp9_lt (cmp9_lt hS)) hS (fun k hk => ?_)
  rw [tb_cmp9 _ hk, tb_cmp9 _ hk, Bool.not_not]
theorem ct_sp {WL : List (List Nat)} {Bt Bi : Nat → Int32} {Bf : Int32} {S : Nat} (hl : WL.length ≤ 2000) (hB : BK WL rSub Bt Bi Bf) (hS : S < 512) {post : Int32 → Prop} (h : post (nI (tch WL S))) : wp_X3_countTouchedBy (nI S) Bi Bf post := by
  obtain ⟨b1, -, b3⟩ := hB
  have e : Bf = nI WL.length := by rw [b1]; congr 1; omega
  have ht : WL.take 2001 = WL := List.take_of_length_le (by omega)
  rw [ht] at b3
  unfold wp_X3_countTouchedBy
  have hc := cmp9_lt hS
  rw [pb_cmp S hS, cl9 (show cmp9 S < 2 ^ 31 by omega), b3 _ hc, e]
  have h1 := cntP_not (fun w => decide (wset w &&& S ≠ 0)) WL
  have h2 : cntP (fun w => rSub (wset w) (cmp9 S)) WL = cntP (fun w => !decide (wset w &&& S ≠ 0)) WL := by
    refine cntP_cong (fun w _ => ?_)
    show decide (wset w &&& cmp9 (cmp9 S) = 0) = _
    rw [cmp9_2 hS]
    simp
  rw [h2, pk_sub (by omega)]
  refine ⟨vp_in_nI hc (by decide), ?_⟩
  have e2 : WL.length - cntP (fun w => !decide (wset w &&& S ≠ 0)) WL = tch WL S := by
    unfold tch
    omega
  rw [e2]
  exact h
theorem cntP_gs {α : Type} (p : α → Bool) (d : α) : ∀ l : List α, cntP p l = gs (fun i => if p (l.getD i d) then 1 else 0) l.length
  | [] => rfl
  | a :: l => by
    rw [cntP, cntP_gs p d l, List.length_cons, Nat.add_comm l.length 1, gs_split]
    congr 1
    · show _ = 0 + (if p ((a :: l).getD 0 d) then 1 else 0)
      rw [Nat.zero_add]
      rfl
    · refine gs_cong (fun k _ => ?_)
      rw [Nat.add_comm 1 k]
      rfl
theorem mt_sp {WL : List (List Nat)} {Mw Mwl Mws : Nat → Int32} {Mf : Int32} {S : Nat} (hM : MOK WL Mw Mwl Mws Mf) (hw : ∀ w ∈ WL, wset w < 512) (hS : S < 512) {post : Int32 → Prop} (h : post (nI (tch WL S))) : wp_X5_touchedBy (nI S) Mws Mf post := by
  obtain ⟨m1, m2, m3⟩ := hM
  subst m1
  refine gl_for0 (Post := fun s => post (nI s)) (fun n i (s : Nat) => wl_X5_touchedBy_4 (nI S) Mws (nI WL.length) post n (nI s) (nI i)) WL.length (fun i s => s + (if decide (wset (WL.getD i []) &&& S ≠ 0) then 1 else 0)) 0 ?_ (fun n s hp => gi_t (nI_le (Nat.le_refl _) (by omega)) hp) ?_
  · intro n i s hi hn
    refine gi_f (nI_ge hi (by omega)) ⟨vp_in_nI (by omega) (by decide), ?_⟩
    rw [cl9 (by omega), (m3 i hi).2.2.1, fa_and]
    have hwi : wset (WL.getD i []) < 512 := by
      rw [List.getD_eq_getElem?_getD, List.getElem?_eq_getElem hi]
      exact hw _ (List.getElem_mem hi)
    have hlt : wset (WL.getD i []) &&& S < 512 := lt512_and hwi
    rcases Nat.decEq (wset (WL.getD i []) &&& S) 0 with q | q
    · rw [decide_eq_true q] at hn
      exact gi_f (nI_ne0 (by omega) (by omega)) (gi_r (nI_1 s) (gi_r (nI_1 i) hn))
    · rw [decide_eq_false (fun w => w q)] at hn
      exact gi_t (by rw [q]; rfl) (gi_r (nI_add s 0) (gi_r (nI_1 i) hn))
  · rw [gf_gs, Nat.zero_add]
    unfold tch at h
    rw [cntP_gs _ [] WL] at h
    exact h
theorem ways_ws (dS : Nat → Nat) (G J : Nat) : ∀ w ∈ ways dS G J, wset w < 512 := fun w hw => wset_lt (ways_mem dS G J w hw)
theorem wg_len {dS : Nat → Nat} {J : Nat} : ∀ f last path, path.length + f ≤ 6 → ∀ w ∈ wg dS J f last path, w.length ≤ 6 ∧ ∃ pre q, w = pre ++ [q] ∧ J.testBit q = true
  | 0, _, _, _, w, hw => absurd hw List.not_mem_nil
  | f + 1, last, path, hp, w, hw => by
    rw [wg_succ] at hw
    refine wr_mem (P := fun w => w.length ≤ 6 ∧ ∃ pre q, w = pre ++ [q] ∧ J.testBit q = true) (fun q hq w hw => ?_) 9 0 (by decide) w hw
    have hl : (path ++ [q]).length = path.length + 1 := by rw [List.length_append]; rfl
    unfold wbody at hw
    rcases Decidable.em ((dS last).testBit q = true ∧ q ∉ path) with c | c
    · rw [if_pos c] at hw
      rcases Decidable.em (J.testBit q = true) with d | d
      · rw [if_pos d] at hw
        rw [List.mem_singleton.mp hw]
        exact ⟨by omega, path, q, rfl, d⟩
      · rw [if_neg d] at hw
        exact wg_len f q (path ++ [q]) (by omega) w hw
    · rw [if_neg c] at hw
      exact absurd hw List.not_mem_nil
theorem ways_len (dS : Nat → Nat) (G J : Nat) : ∀ w ∈ ways dS G J, w.length ≤ 6 ∧ ∃ pre q, w = pre ++ [q] ∧ J.testBit q = true := by
  refine wr_mem (P := fun w => w.length ≤ 6 ∧ ∃ pre q, w = pre ++ [q] ∧ J.testBit q = true) (fun q hq w hw => ?_) 9 0 (by decide)
  unfold wgate at hw
  rcases Decidable.em (G.testBit q = true) with c | c
  · rw [if_pos c] at hw
    exact wg_len 5 q [q] (Nat.le_refl 6) w hw
  · rw [if_neg c] at hw
    exact absurd hw List.not_mem_nil
theorem st_ways : Step_ways Inv := by
  intro Pd Pm Ps Pg Pj Bt Bi Bf Br Rt Rl Rr Ra Wt Wa Wk Wd Wn We Wb Hv Mp Mv Mb Me Md Mdo Mk Mm Mta Mkn Mti Mrl Mrr Mt Mn Mw Mwl Mws Mf Mpa Mne hI
  obtain ⟨N, dS, G, J, dec, tn, vis, dy, mk, rt, rl, rw, hP, hM, hW, hR, hB⟩ := hI
  obtain ⟨⟨hN2, hN9⟩, hPs, hMp, hPd, hdS, hdN, hMdo, hG, hJ, hGJ, hPg, hPj, hMk⟩ := id hP
  subst hPs hMp hPg hPj
  have h512 := pow2N hN9
  refine book_sp hN9 hPd hdS hG (by omega) hB (fun Bt' Bi' Bf' hBK => ?_)
  have fin : ∀ a b c d e g, Inv Pd Pm (nI N) (nI G) (nI J) Bt' Bi' Bf' 1 Rt Rl Rr Ra Wt Wa Wk Wd Wn We Wb Hv (nI N) Mv Mb Me Md Mdo Mk Mm Mta Mkn Mti Mrl Mrr Mt Mn a b c d e g := fun a b c d e g => ⟨N, dS, G, J, dec, tn, vis, dy, mk, rt, rl, rw, hP, hM, hW, hR, Or.inr ⟨rfl, hBK⟩⟩
  rcases Nat.lt_or_ge 2000 (ways dS G J).length with hbig | hsm
  · refine count_out hbig hBK ?_
    refine finds_sp hN9 hG hdS hMdo hGJ hMk (fun _ a b c d e g => ?_) (fun h => absurd h (by omega))
    exact gi_t rfl ⟨rfl, fin _ _ _ _ _ _⟩
  · refine count_in hsm hBK ?_
    refine finds_sp hN9 hG hdS hMdo hGJ hMk (fun h => absurd h (by omega)) (fun _ a b c d e g hMO => ?_)
    exact gi_f (by decide) ⟨hMO.1.symm, fin _ _ _ _ _ _⟩
theorem st_touched : Step_touched Inv := by
  intro Pd Pm Ps Pg Pj Bt Bi Bf Br Rt Rl Rr Ra Wt Wa Wk Wd Wn We Wb Hv Mp Mv Mb Me Md Mdo Mk Mm Mta Mkn Mti Mrl Mrr Mt Mn Mw Mwl Mws Mf Mpa Mne hI p1
  have hI0 := hI
  obtain ⟨N, dS, G, J, dec, tn, vis, dy, mk, rt, rl, rw, hP, hM, hW, hR, hB⟩ := hI
  obtain ⟨⟨hN2, hN9⟩, hPs, hMp, hPd, hdS, hdN, hMdo, hG, hJ, hGJ, hPg, hPj, hMk⟩ := id hP
  subst hPs hMp hPg hPj
  have h512 := pow2N hN9
  refine book_sp hN9 hPd hdS hG (by omega) hB (fun Bt' Bi' Bf' hBK => ?_)
  have fin : ∀ a b c d e g, Inv Pd Pm (nI N) (nI G) (nI J) Bt' Bi' Bf' 1 Rt Rl Rr Ra Wt Wa Wk Wd Wn We Wb Hv (nI N) Mv Mb Me Md Mdo Mk Mm Mta Mkn Mti Mrl Mrr Mt Mn a b c d e g := fun a b c d e g => ⟨N, dS, G, J, dec, tn, vis, dy, mk, rt, rl, rw, hP, hM, hW, hR, Or.inr ⟨rfl, hBK⟩⟩
  rcases pk_ix p1 (n := 2 ^ N) (by omega) with c | c | ⟨S, hS, rfl⟩
  · refine set_out hN9 (Or.inl c) ?_
    refine gi_t rfl ?_
    refine mset_out hN9 (Or.inl c) ?_
    exact gi_t rfl ⟨rfl, fin _ _ _ _ _ _⟩
  · refine set_out hN9 (Or.inr c) ?_
    refine gi_t rfl ?_
    refine mset_out hN9 (Or.inr c) ?_
    exact gi_t rfl ⟨rfl, fin _ _ _ _ _ _⟩
  · refine set_in hS hN9 ?_
    refine gi_f (by decide) ?_
    rcases Nat.lt_or_ge 2000 (ways dS G J).length with hbig | hsm
    · refine count_out hbig hBK ?_
      refine gi_t rfl ?_
      refine mset_in hS hN9 ?_
      refine gi_f (by decide) ?_
      refine finds_sp hN9 hG hdS hMdo hGJ hMk (fun _ a b c d e g => ?_) (fun h => absurd h (by omega))
      exact gi_t rfl ⟨rfl, fin _ _ _ _ _ _⟩
    · refine count_in hsm hBK ?_
      refine gi_f (nI_m1 (by omega)) ?_
      refine ct_sp hsm hBK (by omega) ?_
      refine mset_in hS hN9 ?_
      refine gi_f (by decide) ?_
      refine finds_sp hN9 hG hdS hMdo hGJ hMk (fun h => absurd h (by omega)) (fun _ a b c d e g hMO => ?_)
      refine gi_f (by decide) ?_
      refine mt_sp hMO (ways_ws dS G J) (by omega) ?_
      exact ⟨rfl, fin _ _ _ _ _ _⟩
/-! the places of a way -/
theorem enc_dig : ∀ (w : List Nat) (j : Nat), (∀ p ∈ w, p < 9) → enc w / 16 ^ j % 16 = if j < w.length then w.getD j 0 + 1 else 0
  | [], j, _ => by
    show 0 / 16 ^ j % 16 = if j < 0 then _ else 0
    rw [Nat.zero_div, if_neg (by omega)]
  | p :: t, 0, h => by
    have := h p List.mem_cons_self
    show (p + 1 + 16 * enc t) / 16 ^ 0 % 16 = if 0 < t.length + 1 then p + 1 else 0
    rw [Nat.pow_zero, Nat.div_one, if_pos (by omega)]
    omega
  | p :: t, j + 1, h => by
    have hp := h p List.mem_cons_self
    have ih := enc_dig t j (fun q hq => h q (List.mem_cons_of_mem _ hq))
    show (p + 1 + 16 * enc t) / 16 ^ (j + 1) % 16 = if j + 1 < t.length + 1 then t.getD j 0 + 1 else 0
    rw [Nat.pow_succ, Nat.mul_comm (16 ^ j) 16, ← Nat.div_div_eq_div_mul, show (p + 1 + 16 * enc t) / 16 = enc t from by omega, ih]
    rcases Nat.lt_or_ge j t.length with q | q
    · rw [if_pos q, if_pos (by omega)]
    · rw [if_neg (by omega), if_neg (by omega)]
theorem placeOn_sp {w : List Nat} {j : Nat} (hw : ∀ p ∈ w, p < 9) (hl : w.length ≤ 6) (hj : j < 6) {post : Int32 → Prop} (h : post (if j < w.length then nI (w.getD j 0) else -1)) : wp_X4_placeOn (nI (enc w)) (nI j) post := by
  have h1 := enc_lt hw
  have h2 : 16 ^ w.length ≤ 16 ^ 6 := Nat.pow_le_pow_right (by decide) hl
  have h3 : (16 : Nat) ^ 6 = 16777216 := by decide
  refine gi_f (nlt0 (by omega)) (gi_f (nI_ge (b := 6) hj (by decide)) ?_)
  have e : gq_ushr (nI (enc w)) (4 * nI j) &&& 15 = nI (if j < w.length then w.getD j 0 + 1 else 0) := by
    unfold gq_ushr
    rw [mul4, pk_ushrN (by omega) _ (4 * j) (s_u (4 * j) (by omega)), show (15 : Int32) = nI (2 ^ 4 - 1) from rfl, fa_mask, ← pow16, show (2 : Nat) ^ 4 = 16 from rfl, enc_dig w j hw]
  rw [e]
  rcases Nat.lt_or_ge j w.length with q | q
  · rw [if_pos q] at h ⊢
    rw [nI_pred]
    exact h
  · rw [if_neg (by omega)] at h ⊢
    exact h
theorem placeOn_out {x y : Int32} (hy : y < 0 ∨ 6 ≤ y) {post : Int32 → Prop} (h : post (-1)) : wp_X4_placeOn x y post := by
  unfold wp_X4_placeOn
  refine gi_c (fun _ => h) (fun c1 => ?_)
  rcases hy with q | q
  · exact absurd q c1
  · exact gi_t q h
theorem trail_sp {WL : List (List Nat)} {Bt Bi : Nat → Int32} {Bf : Int32} {i : Nat} (hl : WL.length ≤ 2000) (hB : BK WL rSub Bt Bi Bf) (hi : i < WL.length) {post : Int32 → Prop} (h : post (nI (enc (WL.getD i [])))) : wp_X3_trail (nI i) Bt Bf post := by
  have e : Bf = nI WL.length := by rw [hB.1]; congr 1; omega
  rw [e]
  unfold wp_X3_trail
  refine gi_f (nlt0 (by omega)) (gi_f (nI_ge (b := 2000) (by omega) (by decide)) (gi_f (nI_ge hi (by omega)) ⟨vp_in_nI (by omega) (by decide), ?_⟩))
  rw [cl9 (by omega), hB.2.1 i hi (by omega)]
  exact h
theorem getD_mem {α : Type} {l : List α} {i : Nat} {d : α} (h : i < l.length) : l.getD i d ∈ l := by
  rw [List.getD_eq_getElem?_getD, List.getElem?_eq_getElem h]
  exact List.getElem_mem h
theorem st_way : Step_way Inv := by
  intro Pd Pm Ps Pg Pj Bt Bi Bf Br Rt Rl Rr Ra Wt Wa Wk Wd Wn We Wb Hv Mp Mv Mb Me Md Mdo Mk Mm Mta Mkn Mti Mrl Mrr Mt Mn Mw Mwl Mws Mf Mpa Mne hI p1 p2
  obtain ⟨N, dS, G, J, dec, tn, vis, dy, mk, rt, rl, rw, hP, hM, hW, hR, hB⟩ := hI
  obtain ⟨⟨hN2, hN9⟩, hPs, hMp, hPd, hdS, hdN, hMdo, hG, hJ, hGJ, hPg, hPj, hMk⟩ := id hP
  subst hPs hMp hPg hPj
  have h512 := pow2N hN9
  refine book_sp hN9 hPd hdS hG (by omega) hB (fun Bt' Bi' Bf' hBK => ?_)
  have fin : ∀ a b c d e g, Inv Pd Pm (nI N) (nI G) (nI J) Bt' Bi' Bf' 1 Rt Rl Rr Ra Wt Wa Wk Wd Wn We Wb Hv (nI N) Mv Mb Me Md Mdo Mk Mm Mta Mkn Mti Mrl Mrr Mt Mn a b c d e g := fun a b c d e g => ⟨N, dS, G, J, dec, tn, vis, dy, mk, rt, rl, rw, hP, hM, hW, hR, Or.inr ⟨rfl, hBK⟩⟩
  have hmem := ways_mem dS G J
  have hlen := ways_len dS G J
  generalize hWL : ways dS G J = WL at hBK fin hmem hlen
  -- the reference, where there is no such way
  have none : (p1 < 0 ∨ nI WL.length ≤ p1 ∨ 2000 < WL.length) → wp_X5_way p1 p2 (nI N) Mdo Mk Mw Mwl Mws Mf Mpa Mne (fun (r2 : Int32) (Mw_n : Nat → Int32) (Mwl_n : Nat → Int32) (Mws_n : Nat → Int32) (Mf_n : Int32) (Mpa_n : Nat → Int32) (Mne_n : Nat → Int32) => (-1) = r2 ∧ Inv Pd Pm (nI N) (nI G) (nI J) Bt' Bi' Bf' 1 Rt Rl Rr Ra Wt Wa Wk Wd Wn We Wb Hv (nI N) Mv Mb Me Md Mdo Mk Mm Mta Mkn Mti Mrl Mrr Mt Mn Mw_n Mwl_n Mws_n Mf_n Mpa_n Mne_n) := by
    intro hx
    unfold wp_X5_way
    refine finds_sp hN9 hG hdS hMdo hGJ hMk (fun _ a b c d e g => gi_t rfl ⟨rfl, fin _ _ _ _ _ _⟩) (fun hsm a b c d e g hMO => ?_)
    rw [hWL] at hsm hMO
    refine gi_f (by decide) ?_
    rw [hMO.1]
    refine isIn_f ?_ (gi_t rfl ⟨rfl, fin _ _ _ _ _ _⟩)
    rcases hx with q | q | q
    · exact Or.inl q
    · right
      rw [fa_le, nI_toInt (by omega)] at q
      rw [fa_lt, show (1 : Int32) = nI 1 from rfl, pk_sub_toInt (by omega) (by decide)]
      omega
    · omega
  refine gi_c (fun c => none (Or.inl c)) (fun c0 => ?_)
  rcases Nat.lt_or_ge 2000 WL.length with hbig | hsm
  · refine count_out hbig hBK ?_
    refine gi_f (fun c => ?_) (none (Or.inr (Or.inr hbig)))
    rw [fa_lt] at c c0
    exact c0 (Int.lt_trans c (by decide))
  · refine count_in hsm hBK ?_
    rcases pk_ix p1 (n := WL.length) (by omega) with c | c | ⟨i, hi, rfl⟩
    · exact absurd c c0
    · refine gi_f (fun d => ?_) (none (Or.inr (Or.inl c)))
      rw [fa_lt] at d
      rw [fa_le] at c
      omega
    · refine gi_t (nI_lt hi (by omega)) ?_
      refine trail_sp hsm hBK hi ?_
      have hm := getD_mem (d := []) hi
      have hw9 := hmem _ hm
      have hw6 := (hlen _ hm).1
      -- the reference, at a way that is there
      have mod : ∀ r : Int32, (∀ j, j < (WL.getD i []).length → p2 = nI j → r = nI ((WL.getD i []).getD j 0)) → ((p2 < 0 ∨ nI (WL.getD i []).length ≤ p2) → r = -1) → wp_X5_way (nI i) p2 (nI N) Mdo Mk Mw Mwl Mws Mf Mpa Mne (fun (r2 : Int32) (Mw_n : Nat → Int32) (Mwl_n : Nat → Int32) (Mws_n : Nat → Int32) (Mf_n : Int32) (Mpa_n : Nat → Int32) (Mne_n : Nat → Int32) => r = r2 ∧ Inv Pd Pm (nI N) (nI G) (nI J) Bt' Bi' Bf' 1 Rt Rl Rr Ra Wt Wa Wk Wd Wn We Wb Hv (nI N) Mv Mb Me Md Mdo Mk Mm Mta Mkn Mti Mrl Mrr Mt Mn Mw_n Mwl_n Mws_n Mf_n Mpa_n Mne_n) := by
        intro r hin hout
        unfold wp_X5_way
        refine finds_sp hN9 hG hdS hMdo hGJ hMk (fun h => absurd h (by rw [hWL]; omega)) (fun _ a b c d e g hMO => ?_)
        rw [hWL] at hMO
        refine gi_f (by decide) ?_
        obtain ⟨k1, k2, k3, k4⟩ := hMO.2.2 i hi
        obtain ⟨pre, qq, hpq, -⟩ := (hlen _ hm).2
        have hpos : 0 < (WL.getD i []).length := by rw [hpq, List.length_append]; show 0 < pre.length + 1; omega
        rw [hMO.1, show nI WL.length - 1 = nI (WL.length - 1) from pk_sub (a := WL.length) (b := 1) (by omega)]
        refine isIn_t (a := 0) (Nat.zero_le i) (by omega) (by omega) ?_
        refine gi_f (by decide) ⟨vp_in_nI (by omega) (by decide), ?_⟩
        rw [cl9 (by omega), k2, show nI (WL.getD i []).length - 1 = nI ((WL.getD i []).length - 1) from pk_sub (a := (WL.getD i []).length) (b := 1) hpos]
        rcases pk_ix p2 (n := (WL.getD i []).length) (by omega) with c | c | ⟨j, hj, rfl⟩
        · refine isIn_f (Or.inl c) ?_
          exact gi_t rfl ⟨hout (Or.inl c), fin _ _ _ _ _ _⟩
        · refine isIn_f (Or.inr (lt_of_S (by omega) ?_)) ?_
          · rw [show (WL.getD i []).length - 1 + 1 = (WL.getD i []).length from by omega]
            exact c
          · exact gi_t rfl ⟨hout (Or.inr c), fin _ _ _ _ _ _⟩
        · refine isIn_t (a := 0) (Nat.zero_le j) (by omega) (by omega) ?_
          refine gi_f (by decide) ?_
          rw [ix6, cl9 (by omega)]
          exact ⟨vp_in_nI (by omega) (by decide), (hin j hj rfl).trans (k4 j hj).symm, fin _ _ _ _ _ _⟩
      rcases pk_ix p2 (n := 6) (by decide) with c | c | ⟨j, hj, rfl⟩
      · refine placeOn_out (Or.inl c) (mod _ (fun j hj e => ?_) (fun _ => rfl))
        rw [e] at c
        exact absurd c (nlt0 (by omega))
      · refine placeOn_out (Or.inr c) (mod _ (fun j hj e => ?_) (fun _ => rfl))
        rw [e] at c
        exact absurd ((nI_leI (a := 6) (by decide) (by omega)).mp c) (by omega)
      · refine placeOn_sp hw9 hw6 hj (mod _ (fun j' hj' e => ?_) (fun hx => ?_))
        · have e2 : j = j' := (nI_eq (by omega) (by omega)).mp e
          rw [e2, if_pos hj']
        · rcases hx with q | q
          · exact absurd q (nlt0 (by omega))
          · rw [if_neg (by have := (nI_leI (by omega) (by omega)).mp q; omega)]
