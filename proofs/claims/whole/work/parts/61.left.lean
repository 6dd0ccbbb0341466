/-! what a tale leaves -/
def lfr (dec tn : Nat) (tl : Nat → Nat) : List Nat → Nat → Nat → Int32
  | [], met, j => if met = tn then nI j else -1
  | p :: t, met, j => if met = tn then nI j else if dec.testBit p = true then (if tl met = p then lfr dec tn tl t (met + 1) (j + 1) else -1) else lfr dec tn tl t met (j + 1)
theorem lfr_cases (dec tn : Nat) (tl : Nat → Nat) : ∀ (t : List Nat) (met j : Nat), lfr dec tn tl t met j = -1 ∨ ∃ j', j' ≤ j + t.length ∧ lfr dec tn tl t met j = nI j'
  | [], met, j => by
    rw [lfr]
    rcases Nat.decEq met tn with e | e
    · rw [if_neg e]; exact Or.inl rfl
    · rw [if_pos e]; exact Or.inr ⟨j, Nat.le_refl _, rfl⟩
  | p :: t, met, j => by
    rw [lfr]
    rcases Nat.decEq met tn with e | e
    · rw [if_neg e]
      rcases Decidable.em (dec.testBit p = true) with c | c
      · rw [if_pos c]
        rcases Nat.decEq (tl met) p with d | d
        · rw [if_neg d]; exact Or.inl rfl
        · rw [if_pos d]
          rcases lfr_cases dec tn tl t (met + 1) (j + 1) with h | ⟨j', h1, h2⟩
          · exact Or.inl h
          · exact Or.inr ⟨j', by rw [List.length_cons]; omega, h2⟩
      · rw [if_neg c]
        rcases lfr_cases dec tn tl t met (j + 1) with h | ⟨j', h1, h2⟩
        · exact Or.inl h
        · exact Or.inr ⟨j', by rw [List.length_cons]; omega, h2⟩
    · rw [if_pos e]; exact Or.inr ⟨j, by omega, rfl⟩
theorem getD_mid (pre : List Nat) (p : Nat) (t : List Nat) : (pre ++ p :: t).getD pre.length 0 = p := by
  rw [List.getD_eq_getElem?_getD, List.getElem?_append_right (Nat.le_refl _), Nat.sub_self]
  rfl
section LEFT
variable {dec tn : Nat} {tl : Nat → Nat} {Wt Mt : Nat → Int32}
theorem open_tail {w : List Nat} (hw9 : ∀ p ∈ w, p < 9) (hw6 : w.length ≤ 6) (hd : dec < 512) (htn : tn ≤ 6) {post : Int32 → Prop} (h : post (-1)) : ∀ (k j met : Nat), j + k = 6 → w.length ≤ j → met < tn → wl_X2_openFrom_4 (nI (enc w)) Wt (nI dec) (nI tn) post (k + 1) (nI met) (nI j)
  | 0, j, met, hj, _, _ => gi_t (nI_le (a := 6) (by omega) (by omega)) h
  | k + 1, j, met, hj, hl, hm => by
    refine gi_f (nI_ge (b := 6) (by omega) (by decide)) (gi_f (nI_ge hm (by omega)) (gi_t (nI_lt (b := 6) (by omega) (by decide)) ?_))
    refine placeOn_sp hw9 hw6 (by omega) ?_
    rw [if_neg (by omega)]
    refine sp_has_out (Or.inl (by decide)) ?_
    exact gi_t rfl (gi_r (nI_1 j) (open_tail hw9 hw6 hd htn h k (j + 1) met (by omega) (by omega) hm))
theorem open_sp {w : List Nat} (hw9 : ∀ p ∈ w, p < 9) (hw6 : w.length ≤ 6) (hd : dec < 512) (htn : tn ≤ 6) (hWt : ∀ i, i < tn → tl i < 9 ∧ Wt i = nI (tl i)) {post : Int32 → Prop} : ∀ (t pre : List Nat) (met k : Nat), w = pre ++ t → pre.length + k = 6 → met ≤ tn → (pre.length = 6 → met ≠ tn) → (∀ pre2 q, t = pre2 ++ [q] → dec.testBit q = false) → post (lfr dec tn tl t met pre.length) → wl_X2_openFrom_4 (nI (enc w)) Wt (nI dec) (nI tn) post (k + 1) (nI met) (nI pre.length)
  | [], pre, met, k, hw, hk, hm, he, hq, h => by
    rw [List.append_nil] at hw
    rw [lfr] at h
    rcases Nat.decEq met tn with e | e
    · rw [if_neg e] at h
      exact open_tail hw9 hw6 hd htn h k pre.length met hk (by rw [hw]; exact Nat.le_refl _) (by omega)
    · rw [if_pos e] at h
      have : pre.length ≠ 6 := fun h6 => he h6 e
      have hlt : pre.length < 6 := by omega
      exact gi_f (nI_ge (b := 6) hlt (by decide)) (gi_t (nI_le (by omega) (by omega)) h)
  | p :: t, pre, met, 0, hw, hk, hm, he, hq, h => by
    rw [hw, List.length_append, List.length_cons] at hw6
    omega
  | p :: t, pre, met, k + 1, hw, hk, hm, he, hq, h => by
    rw [lfr] at h
    have hlt : pre.length < 6 := by omega
    refine gi_f (nI_ge (b := 6) hlt (by decide)) ?_
    rcases Nat.decEq met tn with e | e
    · rw [if_neg e] at h
      have hm2 : met < tn := by omega
      refine gi_f (nI_ge hm2 (by omega)) (gi_t (nI_lt (b := 6) (by omega) (by decide)) ?_)
      refine placeOn_sp hw9 hw6 hlt ?_
      have hl2 : pre.length < w.length := by rw [hw, List.length_append, List.length_cons]; omega
      have hp9 : p < 9 := hw9 p (by rw [hw]; exact List.mem_append_right _ List.mem_cons_self)
      rw [if_pos hl2]
      have eg : w.getD pre.length 0 = p := by rw [hw]; exact getD_mid pre p t
      rw [eg]
      have hw2 : w = (pre ++ [p]) ++ t := by rw [hw, List.append_assoc]; rfl
      have hl3 : (pre ++ [p]).length = pre.length + 1 := by rw [List.length_append]; rfl
      have hq2 : ∀ pre2 q, t = pre2 ++ [q] → dec.testBit q = false := fun pre2 q e2 => hq (p :: pre2) q (by rw [e2]; rfl)
      refine sp_has hd hp9 ?_
      refine gi_b (fun hb => ?_) (fun hb => ⟨vp_in_nI (by omega) (by decide), ?_⟩)
      · rw [if_neg (by rw [hb]; decide)] at h
        refine gi_r (nI_1 _) ?_
        rw [← hl3]
        exact open_sp hw9 hw6 hd htn hWt t (pre ++ [p]) met k hw2 (by omega) hm (fun _ => e) hq2 (by rw [hl3]; exact h)
      · rw [if_pos hb] at h
        rw [cl9 (by omega), (hWt met hm2).2]
        rcases Nat.decEq (tl met) p with d | d
        · rw [if_neg d] at h
          exact gi_f (fun c => d ((nI_eq (by have := (hWt met hm2).1; omega) (by omega)).mp c)) h
        · rw [if_pos d] at h
          refine gi_t (by rw [d]) (gi_r (nI_1 _) (gi_r (nI_1 _) ?_))
          rw [← hl3]
          refine open_sp hw9 hw6 hd htn hWt t (pre ++ [p]) (met + 1) k hw2 (by omega) (by omega) (fun h6 => ?_) hq2 (by rw [hl3]; exact h)
          -- the last place is no decoy
          have ht : t = [] := by
            have h7 := hw6
            rw [hw2, List.length_append] at h7
            exact List.length_eq_zero_iff.mp (by omega)
          have := hq [] p (by rw [ht]; rfl)
          rw [hb] at this
          exact absurd this (by decide)
    · rw [if_pos e] at h
      exact gi_t (nI_le (by omega) (by omega)) h
theorem leftTo_sp {WL : List (List Nat)} {Mw Mwl Mws : Nat → Int32} {Mf : Int32} {i : Nat} (hM : MOK WL Mw Mwl Mws Mf) (hi : i < WL.length) (hw9 : ∀ p ∈ WL.getD i [], p < 9) (hd : dec < 512) (htn : tn ≤ 6) (hMt : ∀ i, i < tn → tl i < 9 ∧ Mt i = nI (tl i)) {post : Int32 → Prop} : ∀ (t pre : List Nat) (met : Nat), WL.getD i [] = pre ++ t → met ≤ tn → post (lfr dec tn tl t met pre.length) → wl_X5_leftTo_4 (nI i) (nI dec) Mt (nI tn) Mw Mwl post (t.length + 1) (nI met) (nI pre.length)
  | [], pre, met, hw, hm, h => by
    obtain ⟨k1, k2, k3, k4⟩ := hM.2.2 i hi
    have hm2 := hM.2.1
    rw [List.append_nil] at hw
    rw [lfr] at h
    have hv : vp_in (nI i) 2000 := vp_in_nI (by omega) (by decide)
    refine ⟨hv, ?_⟩
    rw [cl9 (by omega), k2, hw]
    refine gi_t (nI_le (Nat.le_refl _) (by rw [← hw]; omega)) ?_
    rcases Nat.decEq met tn with e | e
    · rw [if_neg e] at h
      exact gi_f (fun c => e ((nI_eq (by omega) (by omega)).mp c)) h
    · rw [if_pos e] at h
      exact gi_t (by rw [e]) ⟨hv, h⟩
  | p :: t, pre, met, hw, hm, h => by
    obtain ⟨k1, k2, k3, k4⟩ := hM.2.2 i hi
    have hm2 := hM.2.1
    rw [lfr] at h
    have hl2 : (WL.getD i []).length = pre.length + (t.length + 1) := by rw [hw, List.length_append, List.length_cons]
    refine ⟨vp_in_nI (by omega) (by decide), ?_⟩
    rw [cl9 (by omega), k2]
    refine gi_f (nI_ge (by omega) (by omega)) ?_
    rcases Nat.decEq met tn with e | e
    · rw [if_neg e] at h
      have hmt : met < tn := by omega
      refine gi_f (fun c => e ((nI_eq (by omega) (by omega)).mp c)) ?_
      have hp9 : p < 9 := hw9 p (by rw [hw]; exact List.mem_append_right _ List.mem_cons_self)
      have eg : (WL.getD i []).getD pre.length 0 = p := by rw [hw]; exact getD_mid pre p t
      rw [ix6, cl9 (by omega), k4 _ (by omega), eg]
      refine ⟨vp_in_nI (by omega) (by decide), gi_n ?_⟩
      have hw2 : WL.getD i [] = (pre ++ [p]) ++ t := by rw [hw, List.append_assoc]; rfl
      have hl3 : (pre ++ [p]).length = pre.length + 1 := by rw [List.length_append]; rfl
      refine mdecoy hd hp9 ?_
      refine gi_b (fun hb => ?_) (fun hb => ⟨vp_in_nI (by omega) (by decide), ?_⟩)
      · rw [if_neg (by rw [hb]; decide)] at h
        refine gi_r (nI_1 _) ?_
        rw [← hl3]
        exact leftTo_sp hM hi hw9 hd htn hMt t (pre ++ [p]) met hw2 hm (by rw [hl3]; exact h)
      · rw [if_pos hb] at h
        rw [cl9 (by omega), (hMt met hmt).2]
        rcases Nat.decEq (tl met) p with d | d
        · rw [if_neg d] at h
          exact gi_f (fun c => d ((nI_eq (by have := (hMt met hmt).1; omega) (by omega)).mp c)) h
        · rw [if_pos d] at h
          refine gi_t (by rw [d]) (gi_r (nI_1 _) (gi_r (nI_1 _) ?_))
          rw [← hl3]
          exact leftTo_sp hM hi hw9 hd htn hMt t (pre ++ [p]) (met + 1) hw2 (by omega) (by rw [hl3]; exact h)
    · rw [if_pos e] at h
      exact gi_t (by rw [e]) h
end LEFT
def lv (dec tn : Nat) (tl : Nat → Nat) (WL : List (List Nat)) (i : Nat) : Int32 := lfr dec tn tl (WL.getD i []) 0 0
/-- both sides' answer for a way -/
theorem open_lv {WL : List (List Nat)} {J dec tn i : Nat} {tl : Nat → Nat} {Wt : Nat → Int32} (hi : i < WL.length) (hmem : ∀ w ∈ WL, ∀ p ∈ w, p < 9) (hlen : ∀ w ∈ WL, w.length ≤ 6 ∧ ∃ pre q, w = pre ++ [q] ∧ J.testBit q = true) (hd : dec < 512) (htn : tn ≤ 6) (hdJ : ∀ p, dec.testBit p = true → J.testBit p = false) (hWt : ∀ i, i < tn → tl i < 9 ∧ Wt i = nI (tl i)) {post : Int32 → Prop} (h : post (lv dec tn tl WL i)) : wp_X2_openFrom (nI (enc (WL.getD i []))) Wt (nI dec) (nI tn) post := by
  have hm := getD_mem (d := []) hi
  refine ⟨7, open_sp (hmem _ hm) (hlen _ hm).1 hd htn hWt (WL.getD i []) [] 0 6 rfl rfl (Nat.zero_le _) (fun h => absurd h (by decide)) (fun pre2 q e => ?_) h⟩
  obtain ⟨-, pre, q2, e2, hj⟩ := hlen _ hm
  rw [e] at e2
  have e3 := List.append_inj_right' e2 rfl
  have e4 : q = q2 := by injection e3
  cases hb : dec.testBit q
  · rfl
  · have := hdJ q hb
    rw [e4, hj] at this
    exact absurd this (by decide)
theorem left_lv {WL : List (List Nat)} {dec tn i : Nat} {tl : Nat → Nat} {Mt : Nat → Int32} {Mw Mwl Mws : Nat → Int32} {Mf : Int32} (hM : MOK WL Mw Mwl Mws Mf) (hi : i < WL.length) (hmem : ∀ w ∈ WL, ∀ p ∈ w, p < 9) (hd : dec < 512) (htn : tn ≤ 6) (hMt : ∀ i, i < tn → tl i < 9 ∧ Mt i = nI (tl i)) {post : Int32 → Prop} (h : post (lv dec tn tl WL i)) : wp_X5_leftTo (nI i) (nI dec) Mt (nI tn) Mw Mwl post :=
  ⟨_, leftTo_sp hM hi (hmem _ (getD_mem (d := []) hi)) hd htn hMt (WL.getD i []) [] 0 rfl (Nat.zero_le _) h⟩
theorem tl_of {N dec tn : Nat} {Wt Mt : Nat → Int32} (hN : N ≤ 9) (w8 : ∀ i, i < tn → ∃ p, p < N ∧ dec.testBit p = true ∧ Wt i = nI p ∧ Mt i = nI p) : ∃ tl : Nat → Nat, (∀ i, i < tn → tl i < 9 ∧ Wt i = nI (tl i)) ∧ (∀ i, i < tn → tl i < 9 ∧ Mt i = nI (tl i)) := by
  refine ⟨fun i => (Wt i).toNatClampNeg, fun i hi => ?_, fun i hi => ?_⟩
  · obtain ⟨x, hx, -, e1, e2⟩ := w8 i hi
    have e3 : (Wt i).toNatClampNeg = x := by rw [e1, cl9 (by omega)]
    exact ⟨by show (Wt i).toNatClampNeg < 9; rw [e3]; omega, by show Wt i = nI (Wt i).toNatClampNeg; rw [e3]; exact e1⟩
  · obtain ⟨x, hx, -, e1, e2⟩ := w8 i hi
    have e3 : (Wt i).toNatClampNeg = x := by rw [e1, cl9 (by omega)]
    exact ⟨by show (Wt i).toNatClampNeg < 9; rw [e3]; omega, by show Mt i = nI (Wt i).toNatClampNeg; rw [e3]; exact e2⟩
theorem st_left : Step_left Inv := by
  intro Pd Pm Ps Pg Pj Bt Bi Bf Br Rt Rl Rr Ra Wt Wa Wk Wd Wn We Wb Hv Mp Mv Mb Me Md Mdo Mk Mm Mta Mkn Mti Mrl Mrr Mt Mn Mw Mwl Mws Mf Mpa Mne hI
  obtain ⟨N, dS, G, J, dec, tn, vis, dy, mk, rt, rl, rw, hP, hM, hW, hR, hB⟩ := hI
  obtain ⟨⟨hN2, hN9⟩, hPs, hMp, hPd, hdS, hdN, hMdo, hG, hJ, hGJ, hPg, hPj, hMk⟩ := id hP
  obtain ⟨w1, w2, w3, w4, w5, w6, w7, w8, w9⟩ := id hW
  subst hPs hMp hPg hPj w2 w3 w6 w7
  have h512 := pow2N hN9
  obtain ⟨tl, hWt, hMt⟩ := tl_of hN9 w8
  refine book_sp hN9 hPd hdS hG (by omega) hB (fun Bt' Bi' Bf' hBK => ?_)
  have fin : ∀ a b c d e g, Inv Pd Pm (nI N) (nI G) (nI J) Bt' Bi' Bf' 1 Rt Rl Rr Ra Wt Wa Wk (nI dec) (nI tn) We Wb Hv (nI N) Mv Mb Me (nI dec) Mdo Mk Mm Mta Mkn Mti Mrl Mrr Mt (nI tn) a b c d e g := fun a b c d e g => ⟨N, dS, G, J, dec, tn, vis, dy, mk, rt, rl, rw, hP, hM, hW, hR, Or.inr ⟨rfl, hBK⟩⟩
  have hmem := ways_mem dS G J
  have hlen := ways_len dS G J
  have hfin := @finds_sp N dS G J Mdo Mk
  generalize ways dS G J = WL at hBK fin hmem hlen hfin
  rcases Nat.lt_or_ge 2000 WL.length with hbig | hsm
  · refine count_out hbig hBK ?_
    refine gi_t rfl ?_
    refine hfin hN9 hG hdS hMdo hGJ hMk (fun _ a b c d e g => ?_) (fun h => absurd h (by omega))
    exact gi_t rfl ⟨rfl, fin _ _ _ _ _ _⟩
  · refine count_in hsm hBK ?_
    refine gi_f (nI_m1 (by omega)) ?_
    refine gl_for0 (Post := fun (s : Nat) => _) (fun n i (s : Nat) => wl_X4_left_19 Wt (nI dec) (nI tn) Bt' Bi' Bf' 1 _ n (nI s) (nI i)) WL.length (fun i s => s + (if lv dec tn tl WL i = -1 then 0 else 1)) 0 ?_ (fun n s hp => count_in hsm hBK (gi_t (nI_le (Nat.le_refl _) (by omega)) hp)) ?_
    · intro n i s hi hn
      refine count_in hsm hBK ?_
      refine gi_f (nI_ge hi (by omega)) ?_
      refine trail_sp hsm hBK hi ?_
      refine open_lv hi hmem hlen (by omega) w5 (fun p hp => (w4 p hp).2) hWt ?_
      refine gi_c (fun c => ?_) (fun c => ?_)
      · rw [if_pos c] at hn
        exact gi_r (nI_1 i) hn
      · rw [if_neg c] at hn
        exact gi_r (nI_1 s) (gi_r (nI_1 i) hn)
    · refine hfin hN9 hG hdS hMdo hGJ hMk (fun h => absurd h (by omega)) (fun _ a b c d e g hMO => ?_)
      refine gi_f (by decide) ?_
      have hMf := hMO.1
      subst hMf
      refine gl_for0 (Post := fun (s : Nat) => _) (fun n i (s : Nat) => wl_X5_left_13 (nI dec) Mt (nI tn) a b c (nI WL.length) e g _ n (nI s) (nI i)) WL.length (fun i s => s + (if lv dec tn tl WL i = -1 then 0 else 1)) 0 ?_ (fun n s hp => gi_t (nI_le (Nat.le_refl _) (by omega)) hp) ⟨rfl, fin _ _ _ _ _ _⟩
      intro n i s hi hn
      refine gi_f (nI_ge hi (by omega)) ?_
      refine left_lv hMO hi hmem (by omega) w5 hMt ?_
      refine gi_c (fun c => ?_) (fun c => ?_)
      · rw [if_pos c] at hn
        exact gi_r (nI_add s 0) (gi_r (nI_1 i) hn)
      · rw [if_neg c] at hn
        exact gi_r (nI_1 s) (gi_r (nI_1 i) hn)
def lwr (f : Nat → Int32) (p1 : Int32) : Nat → Nat → Nat → Int32
  | 0, _, _ => -1
  | k + 1, i, met => if f i = -1 then lwr f p1 k (i + 1) met else if nI met = p1 then nI i else lwr f p1 k (i + 1) (met + 1)
theorem st_leftWay : Step_leftWay Inv := by
  intro Pd Pm Ps Pg Pj Bt Bi Bf Br Rt Rl Rr Ra Wt Wa Wk Wd Wn We Wb Hv Mp Mv Mb Me Md Mdo Mk Mm Mta Mkn Mti Mrl Mrr Mt Mn Mw Mwl Mws Mf Mpa Mne hI p1
  obtain ⟨N, dS, G, J, dec, tn, vis, dy, mk, rt, rl, rw, hP, hM, hW, hR, hB⟩ := hI
  obtain ⟨⟨hN2, hN9⟩, hPs, hMp, hPd, hdS, hdN, hMdo, hG, hJ, hGJ, hPg, hPj, hMk⟩ := id hP
  obtain ⟨w1, w2, w3, w4, w5, w6, w7, w8, w9⟩ := id hW
  subst hPs hMp hPg hPj w2 w3 w6 w7
  have h512 := pow2N hN9
  obtain ⟨tl, hWt, hMt⟩ := tl_of hN9 w8
  refine book_sp hN9 hPd hdS hG (by omega) hB (fun Bt' Bi' Bf' hBK => ?_)
  have fin : ∀ a b c d e g, Inv Pd Pm (nI N) (nI G) (nI J) Bt' Bi' Bf' 1 Rt Rl Rr Ra Wt Wa Wk (nI dec) (nI tn) We Wb Hv (nI N) Mv Mb Me (nI dec) Mdo Mk Mm Mta Mkn Mti Mrl Mrr Mt (nI tn) a b c d e g := fun a b c d e g => ⟨N, dS, G, J, dec, tn, vis, dy, mk, rt, rl, rw, hP, hM, hW, hR, Or.inr ⟨rfl, hBK⟩⟩
  have hmem := ways_mem dS G J
  have hlen := ways_len dS G J
  have hfin := @finds_sp N dS G J Mdo Mk
  generalize ways dS G J = WL at hBK fin hmem hlen hfin
  rcases Nat.lt_or_ge 2000 WL.length with hbig | hsm
  · refine ⟨1, ?_⟩
    refine count_out hbig hBK ?_
    refine gi_t (by decide) ?_
    refine hfin hN9 hG hdS hMdo hGJ hMk (fun _ a b c d e g => ?_) (fun h => absurd h (by omega))
    exact gi_t rfl ⟨rfl, fin _ _ _ _ _ _⟩
  · have cls : ∀ (post : Int32 → (Nat → Int32) → (Nat → Int32) → Int32 → Int32 → Prop) (k i met : Nat), i + k = WL.length → post (lwr (lv dec tn tl WL) p1 k i met) Bt' Bi' Bf' 1 → wl_X4_leftWay_10 p1 Wt (nI dec) (nI tn) Bt' Bi' Bf' 1 post (k + 1) (nI met) (nI i) := by
      intro post k
      induction k with
      | zero =>
        intro i met hi h
        refine count_in hsm hBK ?_
        exact gi_t (nI_le (by omega) (by omega)) h
      | succ k ih =>
        intro i met hi h
        rw [lwr] at h
        refine count_in hsm hBK ?_
        refine gi_f (nI_ge (by omega) (by omega)) ?_
        refine trail_sp hsm hBK (by omega) ?_
        refine open_lv (by omega) hmem hlen (by omega) w5 (fun p hp => (w4 p hp).2) hWt ?_
        refine gi_c (fun c => ?_) (fun c => gi_c (fun d => ?_) (fun d => ?_))
        · rw [if_pos c] at h
          exact gi_r (nI_1 i) (ih (i + 1) met (by omega) h)
        · rw [if_neg c, if_pos d] at h
          exact h
        · rw [if_neg c, if_neg d] at h
          exact gi_r (nI_1 met) (gi_r (nI_1 i) (ih (i + 1) (met + 1) (by omega) h))
    refine ⟨WL.length + 1, cls _ WL.length 0 0 (by omega) ?_⟩
    refine hfin hN9 hG hdS hMdo hGJ hMk (fun h => absurd h (by omega)) (fun _ a b c d e g hMO => ?_)
    refine gi_f (by decide) ?_
    have hMf := hMO.1
    subst hMf
    have mdl : ∀ (post : Int32 → (Nat → Int32) → (Nat → Int32) → (Nat → Int32) → Int32 → (Nat → Int32) → (Nat → Int32) → Prop) (k i met : Nat), i + k = WL.length → post (lwr (lv dec tn tl WL) p1 k i met) a b c (nI WL.length) e g → wl_X5_leftWay_13 p1 (nI dec) Mt (nI tn) a b c (nI WL.length) e g post (k + 1) (nI met) (nI i) := by
      intro post k
      induction k with
      | zero =>
        intro i met hi h
        exact gi_t (nI_le (by omega) (by omega)) h
      | succ k ih =>
        intro i met hi h
        rw [lwr] at h
        refine gi_f (nI_ge (by omega) (by omega)) ?_
        refine left_lv hMO (by omega) hmem (by omega) w5 hMt ?_
        refine gi_c (fun c => ?_) (fun c => gi_c (fun d => ?_) (fun d => ?_))
        · rw [if_pos c] at h
          exact gi_r (nI_1 i) (ih (i + 1) met (by omega) h)
        · rw [if_neg c, if_pos d] at h
          exact h
        · rw [if_neg c, if_neg d] at h
          exact gi_r (nI_1 met) (gi_r (nI_1 i) (ih (i + 1) (met + 1) (by omega) h))
    exact ⟨WL.length + 1, mdl _ WL.length 0 0 (by omega) ⟨rfl, fin _ _ _ _ _ _⟩⟩
def nxB (dec tn : Nat) (tl : Nat → Nat) (WL : List (List Nat)) (i : Nat) : Nat := if lv dec tn tl WL i = -1 then 0 else if (lv dec tn tl WL i).toNatClampNeg < (WL.getD i []).length then 2 ^ ((WL.getD i []).getD (lv dec tn tl WL i).toNatClampNeg 0) else 0
theorem st_next : Step_next Inv := by
  intro Pd Pm Ps Pg Pj Bt Bi Bf Br Rt Rl Rr Ra Wt Wa Wk Wd Wn We Wb Hv Mp Mv Mb Me Md Mdo Mk Mm Mta Mkn Mti Mrl Mrr Mt Mn Mw Mwl Mws Mf Mpa Mne hI
  obtain ⟨N, dS, G, J, dec, tn, vis, dy, mk, rt, rl, rw, hP, hM, hW, hR, hB⟩ := hI
  obtain ⟨⟨hN2, hN9⟩, hPs, hMp, hPd, hdS, hdN, hMdo, hG, hJ, hGJ, hPg, hPj, hMk⟩ := id hP
  obtain ⟨w1, w2, w3, w4, w5, w6, w7, w8, w9⟩ := id hW
  subst hPs hMp hPg hPj w2 w3 w6 w7
  have h512 := pow2N hN9
  obtain ⟨tl, hWt, hMt⟩ := tl_of hN9 w8
  refine book_sp hN9 hPd hdS hG (by omega) hB (fun Bt' Bi' Bf' hBK => ?_)
  have fin : ∀ a b c d e g, Inv Pd Pm (nI N) (nI G) (nI J) Bt' Bi' Bf' 1 Rt Rl Rr Ra Wt Wa Wk (nI dec) (nI tn) We Wb Hv (nI N) Mv Mb Me (nI dec) Mdo Mk Mm Mta Mkn Mti Mrl Mrr Mt (nI tn) a b c d e g := fun a b c d e g => ⟨N, dS, G, J, dec, tn, vis, dy, mk, rt, rl, rw, hP, hM, hW, hR, Or.inr ⟨rfl, hBK⟩⟩
  have hmem := ways_mem dS G J
  have hlen := ways_len dS G J
  have hfin := @finds_sp N dS G J Mdo Mk
  generalize ways dS G J = WL at hBK fin hmem hlen hfin
  have or0 : ∀ s : Nat, nI s ||| 0 = nI (s ||| 0) := fun s => fa_or s 0
  rcases Nat.lt_or_ge 2000 WL.length with hbig | hsm
  · refine count_out hbig hBK ?_
    refine gi_t rfl ?_
    refine hfin hN9 hG hdS hMdo hGJ hMk (fun _ a b c d e g => ?_) (fun h => absurd h (by omega))
    exact gi_t rfl ⟨rfl, fin _ _ _ _ _ _⟩
  · refine count_in hsm hBK ?_
    refine gi_f (nI_m1 (by omega)) ?_
    refine gl_for0 (Post := fun (s : Nat) => _) (fun n i (s : Nat) => wl_X4_next_19 Wt (nI dec) (nI tn) Bt' Bi' Bf' 1 _ n (nI s) (nI i)) WL.length (fun i s => s ||| nxB dec tn tl WL i) 0 ?_ (fun n s hp => count_in hsm hBK (gi_t (nI_le (Nat.le_refl _) (by omega)) hp)) ?_
    · intro n i s hi hn
      have hm := getD_mem (d := []) hi
      refine count_in hsm hBK ?_
      refine gi_f (nI_ge hi (by omega)) ?_
      refine trail_sp hsm hBK hi ?_
      refine open_lv hi hmem hlen (by omega) w5 (fun p hp => (w4 p hp).2) hWt ?_
      have hwl := (hlen _ hm).1
      unfold nxB at hn
      rcases lfr_cases dec tn tl (WL.getD i []) 0 0 with hc | ⟨j, hj, hc⟩
      · have hc2 : lv dec tn tl WL i = -1 := hc
        rw [if_pos hc2] at hn
        rw [hc2]
        refine placeOn_out (Or.inl (by decide)) ?_
        refine sp_setOf_out (Or.inl (by decide)) ?_
        exact gi_r (or0 s) (gi_r (nI_1 i) hn)
      · have hc2 : lv dec tn tl WL i = nI j := hc
        rw [hc2, if_neg (nI_m1 (by omega)), cl9 (by omega)] at hn
        rw [hc2]
        rcases Nat.lt_or_ge j 6 with h6 | h6
        · refine placeOn_sp (hmem _ hm) hwl h6 ?_
          rcases Nat.lt_or_ge j (WL.getD i []).length with q | q
          · rw [if_pos q] at hn ⊢
            refine sp_setOf (hmem _ hm _ (getD_mem q)) ?_
            exact gi_r (fa_or _ _) (gi_r (nI_1 i) hn)
          · rw [if_neg (by omega)] at hn ⊢
            refine sp_setOf_out (Or.inl (by decide)) ?_
            exact gi_r (or0 s) (gi_r (nI_1 i) hn)
        · rw [if_neg (by omega)] at hn
          refine placeOn_out (Or.inr (nI_le (a := 6) h6 (by omega))) ?_
          refine sp_setOf_out (Or.inl (by decide)) ?_
          exact gi_r (or0 s) (gi_r (nI_1 i) hn)
    · refine hfin hN9 hG hdS hMdo hGJ hMk (fun h => absurd h (by omega)) (fun _ a b c d e g hMO => ?_)
      refine gi_f (by decide) ?_
      have hMf := hMO.1
      subst hMf
      refine gl_for0 (Post := fun (s : Nat) => _) (fun n i (s : Nat) => wl_X5_next_13 (nI dec) Mt (nI tn) a b c (nI WL.length) e g _ n (nI s) (nI i)) WL.length (fun i s => s ||| nxB dec tn tl WL i) 0 ?_ (fun n s hp => gi_t (nI_le (Nat.le_refl _) (by omega)) hp) ⟨rfl, fin _ _ _ _ _ _⟩
      intro n i s hi hn
      have hm := getD_mem (d := []) hi
      obtain ⟨k1, k2, k3, k4⟩ := hMO.2.2 i hi
      refine gi_f (nI_ge hi (by omega)) ?_
      refine left_lv hMO hi hmem (by omega) w5 hMt ?_
      unfold nxB at hn
      rcases lfr_cases dec tn tl (WL.getD i []) 0 0 with hc | ⟨j, hj, hc⟩
      · have hc2 : lv dec tn tl WL i = -1 := hc
        rw [if_pos hc2, Nat.or_zero] at hn
        exact gi_t hc2 (gi_r (nI_1 i) hn)
      · have hc2 : lv dec tn tl WL i = nI j := hc
        rw [hc2, if_neg (nI_m1 (by omega)), cl9 (by omega)] at hn
        rw [hc2]
        refine gi_f (nI_m1 (by omega)) ⟨vp_in_nI (by omega) (by decide), ?_⟩
        rw [cl9 (by omega), k2]
        rcases Nat.lt_or_ge j (WL.getD i []).length with q | q
        · rw [if_pos q] at hn
          refine gi_f (nI_ge q (by omega)) ?_
          have h9 := hmem _ hm _ (getD_mem (d := 0) q)
          rw [ix6, cl9 (by omega), k4 j q, pb_one _ (by omega)]
          exact ⟨vp_in_nI (by omega) (by decide), gi_r (fa_or _ _) (gi_r (nI_1 i) hn)⟩
        · rw [if_neg (by omega), Nat.or_zero] at hn
          exact gi_t (nI_le q (by omega)) (gi_r (nI_1 i) hn)
