/-! a loop that looks for one -/
theorem gl_find (L : Nat → Nat → Prop) (B : Nat) (P : Nat → Prop) (hd : ∀ i, P i ∨ ¬ P i) (hf : ∀ n i, i < B → P i → L (n + 1) i) (hs : ∀ n i, i < B → ¬ P i → L n (i + 1) → L (n + 1) i) (he : (∀ i, i < B → ¬ P i) → ∀ n, L (n + 1) B) : ∃ k, L k 0 := by
  have key : ∀ j, j ≤ B → (∀ i, i < B - j → ¬ P i) → L (j + 1) (B - j) := by
    intro j
    induction j with
    | zero =>
      intro _ h
      exact he h 0
    | succ j ih =>
      intro hj h
      rcases hd (B - (j + 1)) with q | q
      · exact hf _ _ (by omega) q
      · have e : B - (j + 1) + 1 = B - j := by omega
        refine hs _ _ (by omega) q ?_
        rw [e]
        refine ih (by omega) ?_
        intro i hi
        rcases Nat.lt_or_ge i (B - (j + 1)) with w | w
        · exact h i w
        · have e2 : i = B - (j + 1) := by omega
          rw [e2]; exact q
  have h3 := key B (Nat.le_refl B) (fun i hi => absurd hi (by omega))
  rw [Nat.sub_self] at h3
  exact ⟨_, h3⟩
theorem was_sp {tn : Nat} (ht : tn ≤ 6) {Wt : Nat → Int32} {x : Int32} {post : Int32 → Prop} (h1 : (∃ i, i < tn ∧ Wt i = x) → post 1) (h0 : (∀ i, i < tn → ¬ Wt i = x) → post 0) : wp_X2_wasTouched x Wt (nI tn) post := by
  refine gl_find (fun n i => wl_X2_wasTouched_2 x Wt (nI tn) post n (nI i)) tn (fun i => Wt i = x) (fun i => Decidable.em _) ?_ ?_ ?_
  · intro n i hi hp
    refine gi_f (nI_ge hi (by omega)) (gi_f (nI_ge (b := 6) (by omega) (by decide)) ⟨vp_in_nI (by omega) (by decide), ?_⟩)
    rw [cl9 (by omega)]
    exact gi_t hp (h1 ⟨i, hi, hp⟩)
  · intro n i hi hp hn
    refine gi_f (nI_ge hi (by omega)) (gi_f (nI_ge (b := 6) (by omega) (by decide)) ⟨vp_in_nI (by omega) (by decide), ?_⟩)
    rw [cl9 (by omega)]
    exact gi_f hp (gi_r (nI_1 i) hn)
  · intro hn n
    exact gi_t (nI_le (Nat.le_refl tn) (by omega)) (h0 hn)
theorem st_touch : Step_touch Inv := by
  intro Pd Pm Ps Pg Pj Bt Bi Bf Br Rt Rl Rr Ra Wt Wa Wk Wd Wn We Wb Hv Mp Mv Mb Me Md Mdo Mk Mm Mta Mkn Mti Mrl Mrr Mt Mn Mw Mwl Mws Mf Mpa Mne hI p1
  have hI0 := hI
  obtain ⟨N, dS, G, J, dec, tn, vis, dy, mk, rt, rl, rw, hP, hM, hW, hR, hB⟩ := hI
  obtain ⟨⟨hN2, hN9⟩, hPs, hMp, hPrest⟩ := hP
  obtain ⟨w1, w2, w3, w4, w5, w6, w7, w8, w9⟩ := hW
  subst hPs hMp w2 w3 w6 w7
  have h512 := pow2N hN9
  have out : ∀ x : Int32, (x < 0 ∨ nI N ≤ x) → wp_X5_touch x (nI N) (nI dec) Mt (nI tn) (fun (r2 : Int32) (Mt_n : Nat → Int32) (Mn_n : Int32) => 0 = r2 ∧ Inv Pd Pm (nI N) Pg Pj Bt Bi Bf Br Rt Rl Rr Ra Wt Wa Wk (nI dec) (nI tn) We Wb Hv (nI N) Mv Mb Me (nI dec) Mdo Mk Mm Mta Mkn Mti Mrl Mrr Mt_n Mn_n Mw Mwl Mws Mf Mpa Mne) := fun x hx => mplace_out hN2 hN9 hx (gi_t rfl ⟨rfl, hI0⟩)
  unfold wp_X4_touch wp_X2_noteTouch
  rcases pk_ix p1 (n := 9) (by decide) with c | c | ⟨a, ha, rfl⟩
  · refine sp_has_out (Or.inl c) ?_
    refine gi_t rfl ?_
    exact ⟨gq_zb0, out _ (Or.inl c)⟩
  · refine sp_has_out (Or.inr c) ?_
    refine gi_t rfl ?_
    refine ⟨gq_zb0, out _ (Or.inr ?_)⟩
    rw [fa_le, nI_toInt (by omega)]
    have c2 : (nI 9).toInt ≤ p1.toInt := (fa_le _ _).mp c
    rw [nI_toInt (by omega)] at c2
    omega
  · refine sp_has (S := dec) (by omega) ha ?_
    refine gi_b (fun hb => ?_) (fun hb => ?_)
    · refine ⟨gq_zb0, ?_⟩
      rcases Nat.lt_or_ge a N with q | q
      · refine mplace_in q hN9 (gi_f (by decide) (mdecoy (by omega) ha ?_))
        rw [hb]
        exact gi_t rfl ⟨rfl, hI0⟩
      · exact out _ (Or.inr (nI_le q (by omega)))
    · have haN := lt_N w1 hb
      refine gi_f (nlt0 (by omega)) ?_
      have mod : ∀ post : Int32 → (Nat → Int32) → Int32 → Prop, (tn = 6 → post 0 Mt (nI tn)) → (tn < 6 → (∃ i, i < tn ∧ Wt i = nI a) → post 0 Mt (nI tn)) → (tn < 6 → (∀ i, i < tn → ¬ Wt i = nI a) → post 1 (upd Mt tn (nI a)) (nI (tn + 1))) → wp_X5_touch (nI a) (nI N) (nI dec) Mt (nI tn) post := by
        intro post h6 h0 h1
        refine mplace_in haN hN9 (gi_f (by decide) (mdecoy (by omega) ha ?_))
        rw [hb]
        refine gi_f (by decide) ?_
        rcases Nat.decEq tn 6 with q | q
        · have hlt : tn < 6 := by omega
          refine gi_f (fun e => q ((nI_eq (b := 6) (by omega) (by decide)).mp e)) ?_
          refine gl_find (fun n i => wl_X5_touch_29 (nI a) Mt (nI tn) post n (nI i)) tn (fun i => Wt i = nI a) (fun i => Decidable.em _) ?_ ?_ ?_
          · intro n i hi hp
            obtain ⟨x, hx, -, e1, e2⟩ := w8 i hi
            refine gi_f (nI_ge hi (by omega)) ⟨vp_in_nI (by omega) (by decide), ?_⟩
            rw [cl9 (by omega), e2, ← e1]
            exact gi_t hp (h0 hlt ⟨i, hi, hp⟩)
          · intro n i hi hp hn
            obtain ⟨x, hx, -, e1, e2⟩ := w8 i hi
            refine gi_f (nI_ge hi (by omega)) ⟨vp_in_nI (by omega) (by decide), ?_⟩
            rw [cl9 (by omega), e2, ← e1]
            exact gi_f hp (gi_r (nI_1 i) hn)
          · intro hn n
            refine gi_t (nI_le (Nat.le_refl tn) (by omega)) ⟨vp_in_nI hlt (by decide), ?_⟩
            rw [cl9 (by omega)]
            exact gi_n (gi_r (nI_1 tn) (h1 hlt hn))
        · exact gi_t (by rw [q]; rfl) (h6 q)
      rcases Nat.decEq tn 6 with q | q
      · have hlt : tn < 6 := by omega
        refine gi_f (nI_ge (b := 6) hlt (by decide)) (was_sp w5 (fun hex => ?_) (fun hno => ?_))
        · exact gi_f (by decide) ⟨gq_zb0, mod _ (fun e => absurd e q) (fun _ _ => ⟨rfl, hI0⟩) (fun _ hno => absurd hex (fun ⟨i, h1, h2⟩ => hno i h1 h2))⟩
        · refine gi_t rfl ⟨vp_in_nI hlt (by decide), ?_⟩
          rw [cl9 (by omega)]
          refine gi_n (gi_r (nI_1 tn) ⟨gq_zb1, mod _ (fun e => absurd e q) (fun _ hex => absurd hex (fun ⟨i, h1, h2⟩ => hno i h1 h2)) (fun _ _ => ⟨rfl, ?_⟩)⟩)
          refine ⟨N, dS, G, J, dec, tn + 1, vis, dy, mk, rt, rl, rw, ⟨⟨hN2, hN9⟩, rfl, rfl, hPrest⟩, hM, ⟨w1, rfl, rfl, w4, by omega, rfl, rfl, ?_, w9⟩, hR, hB⟩
          intro i hi
          rcases Nat.decEq i tn with e | e
          · obtain ⟨x, hx, hd, e1, e2⟩ := w8 i (by omega)
            exact ⟨x, hx, hd, by rw [upd_n _ _ e]; exact e1, by rw [upd_n _ _ e]; exact e2⟩
          · subst e
            exact ⟨a, haN, hb, upd_s _ _ _, upd_s _ _ _⟩
      · exact gi_t (by rw [q]; decide) ⟨gq_zb0, mod _ (fun _ => ⟨rfl, hI0⟩) (fun h => absurd h (by omega)) (fun h => absurd h (by omega))⟩
/-! tell -/
def tst (We Wb : Int32) (p : Nat) (s : Int32 × (Nat → Int32) × (Nat → Int32)) : Int32 × (Nat → Int32) × (Nat → Int32) :=
  if Wb ≤ s.2.1 p + 1 then (s.1 + 1, upd (upd s.2.1 p (s.2.1 p + 1)) p 0, upd s.2.2 p (We + 10)) else (s.1, upd s.2.1 p (s.2.1 p + 1), s.2.2)
def tRel (N : Nat) (s t : Int32 × (Nat → Int32) × (Nat → Int32)) : Prop := s.1 = t.1 ∧ (∀ p, p < N → s.2.1 p = t.2.1 p) ∧ (∀ p, p < N → s.2.2 p = t.2.2 p) ∧ (∀ p, N ≤ p → p < 9 → s.2.2 p = 0)
theorem tst_rel {N : Nat} {We Wb : Int32} {p : Nat} (hp : p < N) {s t : Int32 × (Nat → Int32) × (Nat → Int32)} (h : tRel N s t) : tRel N (tst We Wb p s) (tst We Wb p t) := by
  obtain ⟨h1, h2, h3, h4⟩ := h
  unfold tst
  rw [h2 p hp]
  have hu : ∀ (f g : Nat → Int32) (x : Int32), (∀ q, q < N → f q = g q) → ∀ q, q < N → upd f p x q = upd g p x q := by
    intro f g x hfg q hq
    rcases Nat.decEq q p with e | e
    · rw [upd_n _ _ e, upd_n _ _ e]; exact hfg q hq
    · rw [e, upd_s, upd_s]
  rcases Decidable.em (Wb ≤ t.2.1 p + 1) with q | q
  · rw [if_pos q, if_pos q]
    refine ⟨by rw [h1], hu _ _ _ (hu _ _ _ h2), hu _ _ _ h3, ?_⟩
    intro x hx hx9
    show upd s.2.2 p (We + 10) x = 0
    rw [upd_n _ _ (by omega)]
    exact h4 x hx hx9
  · rw [if_neg q, if_neg q]
    exact ⟨h1, hu _ _ _ h2, h3, h4⟩
theorem tst_rels {N : Nat} {We Wb : Int32} {pl : Nat → Nat} {s t : Int32 × (Nat → Int32) × (Nat → Int32)} (h : tRel N s t) : ∀ n, (∀ i, i < n → pl i < N) → tRel N (gfold (fun i s => tst We Wb (pl i) s) n s) (gfold (fun i s => tst We Wb (pl i) s) n t)
  | 0, _ => h
  | n + 1, hp => tst_rel (hp n (by omega)) (tst_rels h n (fun i hi => hp i (by omega)))
theorem st_tell : Step_tell Inv := by
  intro Pd Pm Ps Pg Pj Bt Bi Bf Br Rt Rl Rr Ra Wt Wa Wk Wd Wn We Wb Hv Mp Mv Mb Me Md Mdo Mk Mm Mta Mkn Mti Mrl Mrr Mt Mn Mw Mwl Mws Mf Mpa Mne hI
  obtain ⟨N, dS, G, J, dec, tn, vis, dy, mk, rt, rl, rw, hP, hM, hW, hR, hB⟩ := hI
  obtain ⟨⟨hN2, hN9⟩, hPs, hMp, hPrest⟩ := hP
  obtain ⟨w1, w2, w3, w4, w5, w6, w7, w8, w9, w10, w11, w12, w13, w14, w15⟩ := hW
  subst hPs hMp w6 w7 w9
  obtain ⟨pl, hpl⟩ : ∃ pl : Nat → Nat, ∀ i, i < tn → pl i < N ∧ Wt i = nI (pl i) ∧ Mt i = nI (pl i) := by
    refine ⟨fun i => (Wt i).toNatClampNeg, fun i hi => ?_⟩
    obtain ⟨x, hx, -, e1, e2⟩ := w8 i hi
    have e3 : (Wt i).toNatClampNeg = x := by rw [e1, cl9 (by omega)]
    exact ⟨by show (Wt i).toNatClampNeg < N; rw [e3]; exact hx, by show Wt i = nI (Wt i).toNatClampNeg; rw [e3]; exact e1, by show Mt i = nI (Wt i).toNatClampNeg; rw [e3]; exact e2⟩
  subst w10 w11
  refine gl_for0 (Post := fun (s : Int32 × (Nat → Int32) × (Nat → Int32)) => _) (fun n i (s : Int32 × (Nat → Int32) × (Nat → Int32)) => wl_X2_endTale_4 Wt (nI tn) (nI dy) Wb _ n s.1 (nI i) s.2.1 s.2.2) tn (fun i s => tst (nI dy) Wb (pl i) s) (0, Wa, Wk) ?_ (fun n s hp => gi_t (nI_le (Nat.le_refl tn) (by omega)) hp) ?_
  · intro n i s hi hn
    obtain ⟨h1, h2, h3⟩ := hpl i hi
    refine gi_f (nI_ge hi (by omega)) (gi_f (nI_ge (b := 6) (by omega) (by decide)) ⟨vp_in_nI (by omega) (by decide), ?_⟩)
    rw [cl9 (by omega), h2]
    have hv : vp_in (nI (pl i)) 9 := vp_in_nI (by omega) (by decide)
    refine gi_f (nlt0 (by omega)) (gi_t (nI_lt (b := 9) (by omega) (by decide)) ?_)
    rw [cl9 (by omega)]
    refine ⟨hv, hv, gi_n ⟨hv, ?_⟩⟩
    rw [upd_s]
    unfold tst at hn
    refine gi_c (fun c => ⟨hv, gi_n ⟨hv, gi_n (gi_f (by decide) (gi_n (gi_r (nI_1 i) ?_)))⟩⟩) (fun c => gi_t rfl (gi_r (nI_1 i) ?_))
    · rw [if_pos c] at hn; exact hn
    · rw [if_neg c] at hn; exact hn
  · refine gl_for0 (Post := fun (s : Int32 × (Nat → Int32) × (Nat → Int32)) => _) (fun n i (s : Int32 × (Nat → Int32) × (Nat → Int32)) => wl_X5_tell_4 Wb (nI dy) Mt (nI tn) _ n s.1 (nI i) s.2.1 s.2.2) tn (fun i s => tst (nI dy) Wb (pl i) s) (0, Mta, Mkn) ?_ (fun n s hp => gi_t (nI_le (Nat.le_refl tn) (by omega)) hp) ?_
    · intro n i s hi hn
      obtain ⟨h1, h2, h3⟩ := hpl i hi
      refine gi_f (nI_ge hi (by omega)) ⟨vp_in_nI (by omega) (by decide), ?_⟩
      rw [cl9 (by omega), h3]
      have hv : vp_in (nI (pl i)) 9 := vp_in_nI (by omega) (by decide)
      refine gi_n ?_
      rw [cl9 (by omega)]
      refine ⟨hv, hv, gi_n ⟨hv, ?_⟩⟩
      rw [upd_s]
      unfold tst at hn
      refine gi_c (fun c => ⟨hv, gi_n ⟨hv, gi_n (gi_n (gi_r (nI_1 i) ?_))⟩⟩) (fun c => gi_r (nI_1 i) ?_)
      · rw [if_pos c] at hn; exact hn
      · rw [if_neg c] at hn; exact hn
    · have hr : tRel N (gfold (fun i s => tst (nI dy) Wb (pl i) s) tn (0, Wa, Wk)) (gfold (fun i s => tst (nI dy) Wb (pl i) s) tn (0, Mta, Mkn)) := tst_rels (show tRel N (0, Wa, Wk) (0, Mta, Mkn) from ⟨rfl, w13, w14, w15⟩) tn (fun i hi => (hpl i hi).1)
      obtain ⟨r1, r2, r3, r4⟩ := hr
      exact ⟨r1, ⟨N, dS, G, J, dec, 0, vis, dy, mk, rt, rl, rw, ⟨⟨hN2, hN9⟩, rfl, rfl, hPrest⟩, hM, ⟨w1, w2, w3, w4, by decide, rfl, rfl, fun i h => absurd h (by omega), rfl, rfl, rfl, w12, r2, r3, r4⟩, hR, hB⟩⟩
/-! unlike -/
theorem pmarks_sp {a N d : Nat} (ha : a < N) (hN9 : N ≤ 9) {Pm : Nat → Int32} (hPm : Pm a = nI d) {post : Int32 → Prop} (h : post (nI d)) : wp_X0_marks (nI a) Pm (nI N) post := by
  refine place_in ha hN9 ?_
  refine gi_f (by decide) ⟨vp_in_nI (by omega) (by decide), ?_⟩
  rw [cl9 (by omega), hPm]
  exact h
def ust (dec vis : Nat) (mk : Nat → Nat) (a q : Nat) (x : Int32) : Int32 := if dec.testBit q then x else if x = -1 then nI (popc ((mk a ^^^ mk q) &&& vis)) else if x ≤ nI (popc ((mk a ^^^ mk q) &&& vis)) then x else nI (popc ((mk a ^^^ mk q) &&& vis))
theorem st_unlike : Step_unlike Inv := by
  intro Pd Pm Ps Pg Pj Bt Bi Bf Br Rt Rl Rr Ra Wt Wa Wk Wd Wn We Wb Hv Mp Mv Mb Me Md Mdo Mk Mm Mta Mkn Mti Mrl Mrr Mt Mn Mw Mwl Mws Mf Mpa Mne hI p1
  have hI0 := hI
  obtain ⟨N, dS, G, J, dec, tn, vis, dy, mk, rt, rl, rw, hP, hM, hW, hR, hB⟩ := hI
  obtain ⟨⟨hN2, hN9⟩, hPs, hMp, hPrest⟩ := hP
  obtain ⟨w1, w2, w3, w4⟩ := hW
  obtain ⟨m1, m2, m3, m4, m5⟩ := hM
  subst hPs hMp w2 w3 m3 m4
  have h512 := pow2N hN9
  refine gi_dec ?_
  rcases pk_ix p1 (n := N) (by omega) with c | c | ⟨a, ha, rfl⟩
  · exact place_out (Or.inl c) (gi_t rfl (mplace_out hN2 hN9 (Or.inl c) (gi_t rfl ⟨rfl, hI0⟩)))
  · exact place_out (Or.inr c) (gi_t rfl (mplace_out hN2 hN9 (Or.inr c) (gi_t rfl ⟨rfl, hI0⟩)))
  · refine place_in ha hN9 (gi_f (by decide) (sp_has (by omega) (by omega) (gi_b (fun hb => ?_) (fun hb => ?_))))
    · refine mplace_in ha hN9 (gi_f (by decide) (mdecoy (by omega) (by omega) ?_))
      rw [hb]
      exact gi_t rfl ⟨rfl, hI0⟩
    · have hx : ∀ q, (mk a ^^^ mk q) &&& vis < 512 := fun q => Nat.lt_of_le_of_lt Nat.and_le_right (by omega)
      refine gl_for0 (Post := fun (x : Int32) => _) (fun n i (x : Int32) => wl_X4_unlike_34 (nI a) Pm (nI N) (nI vis) (nI dec) _ n x (nI i)) N (fun q x => ust dec vis mk a q x) (-1) ?_ (fun n x hp => gi_size (gi_t (nI_le (Nat.le_refl N) (by omega)) hp)) ?_
      · intro n i x hi hn
        refine gi_size ?_
        refine gi_f (nI_ge hi (by omega)) (sp_has (by omega) (by omega) (gi_b (fun hd => ?_) (fun hd => ?_)))
        · refine pmarks_sp ha hN9 (m1 a (by omega)).1 ?_
          refine pmarks_sp hi hN9 (m1 i (by omega)).1 ?_
          rw [fb_xorI, fa_and]
          refine sp_bc (hx i) ?_
          unfold ust at hn
          rw [hd] at hn
          refine gi_c (fun e => gi_r (nI_1 i) ?_) (fun e => gi_n (gi_r (nI_1 i) ?_))
          · rw [if_neg (by decide), if_pos e] at hn; exact hn
          · rw [if_neg (by decide), if_neg e] at hn
            rcases Decidable.em (x ≤ nI (popc ((mk a ^^^ mk i) &&& vis))) with q | q
            · rw [if_pos q] at hn
              rw [if_neg (by rw [fa_le] at q; rw [fa_lt]; omega)]
              exact hn
            · rw [if_neg q] at hn
              rw [if_pos (by rw [fa_le] at q; rw [fa_lt]; omega)]
              exact hn
        · unfold ust at hn
          rw [hd, if_pos rfl] at hn
          exact gi_r (nI_1 i) hn
      · refine mplace_in ha hN9 (gi_f (by decide) (mdecoy (by omega) (by omega) ?_))
        rw [hb]
        refine gi_f (by decide) ?_
        refine gl_for0 (Post := fun (x : Int32) => _) (fun n i (x : Int32) => wl_X5_unlike_22 (nI a) (nI N) (nI vis) (nI dec) Mm _ n x (nI i)) N (fun q x => ust dec vis mk a q x) (-1) ?_ (fun n x hp => gi_t (nI_le (Nat.le_refl N) (by omega)) hp) ⟨rfl, hI0⟩
        intro n i x hi hn
        refine gi_f (nI_ge hi (by omega)) (mdecoy (by omega) (by omega) ?_)
        refine gi_b (fun hd => ⟨vp_in_nI (by omega) (by decide), vp_in_nI (by omega) (by decide), ?_⟩) (fun hd => ?_)
        · rw [cl9 (by omega), cl9 (by omega), (m1 a (by omega)).2, (m1 i (by omega)).2, fb_xorI, fa_and]
          refine sp_bits (hx i) ?_
          unfold ust at hn
          rw [hd] at hn
          refine gi_c (fun e => gi_r (nI_1 i) ?_) (fun e => gi_c (fun q => gi_r (nI_1 i) ?_) (fun q => gi_r (nI_1 i) ?_))
          · rw [if_neg (by decide), if_pos e] at hn; exact hn
          · rw [if_neg (by decide), if_neg e, if_pos q] at hn; exact hn
          · rw [if_neg (by decide), if_neg e, if_neg q] at hn; exact hn
        · unfold ust at hn
          rw [hd, if_pos rfl] at hn
          exact gi_r (nI_1 i) hn
