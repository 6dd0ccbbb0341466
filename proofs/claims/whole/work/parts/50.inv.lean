/-! THE INVARIANT between the class's cells and the reference's -/
def kd (G J p : Nat) : Nat := if G.testBit p then 1 else if J.testBit p then 2 else 0
def I_plan (N : Nat) (dS : Nat → Nat) (G J : Nat) (Pd : Nat → Int32) (Ps Pg Pj Mp : Int32) (Mdo Mk : Nat → Int32) : Prop :=
  (2 ≤ N ∧ N ≤ 9) ∧ Ps = nI N ∧ Mp = nI N ∧ (∀ a, a < 9 → Pd a = nI (dS a)) ∧ (∀ a, dS a < 2 ^ N) ∧ (∀ a, N ≤ a → dS a = 0) ∧ (∀ a b, a < 9 → b < 9 → Mdo (9 * a + b) = if (dS a).testBit b then 1 else 0) ∧
  G < 2 ^ N ∧ J < 2 ^ N ∧ (∀ p, G.testBit p = true → J.testBit p = false) ∧ Pg = nI G ∧ Pj = nI J ∧ (∀ p, p < 9 → Mk p = nI (kd G J p))
def I_marks (vis : Nat) (mk : Nat → Nat) (Pm : Nat → Int32) (Hv Mv : Int32) (Mm : Nat → Int32) : Prop :=
  (∀ p, p < 9 → Pm p = nI (mk p) ∧ Mm p = nI (mk p)) ∧ (∀ p, mk p < 256) ∧ Hv = nI vis ∧ Mv = nI vis ∧ vis < 256
def I_watch (N G J dec tn dy : Nat) (Wt Wa Wk : Nat → Int32) (Wd Wn We Wb Mb Me Md : Int32) (Mta Mkn Mt : Nat → Int32) (Mn : Int32) : Prop :=
  dec < 2 ^ N ∧ Wd = nI dec ∧ Md = nI dec ∧ (∀ p, dec.testBit p = true → G.testBit p = false ∧ J.testBit p = false) ∧ tn ≤ 6 ∧ Wn = nI tn ∧ Mn = nI tn ∧ (∀ i, i < tn → ∃ p, p < N ∧ dec.testBit p = true ∧ Wt i = nI p ∧ Mt i = nI p) ∧
  Wb = Mb ∧ We = nI dy ∧ Me = nI dy ∧ dy ≤ 10000 ∧ (∀ p, p < N → Wa p = Mta p) ∧ (∀ p, p < N → Wk p = Mkn p) ∧ (∀ p, N ≤ p → p < 9 → Wk p = 0)
def hon (rt rl : Nat → Nat) (rw : Nat → Nat → Nat) (p : Nat) : Nat := gs (fun r => gs (fun i => if rw r i = p then rt r else 0) (rl r)) 6
def nibI (row : Int32) (i : Nat) : Int32 := (gq_ushr row (4 * nI i)) &&& 15
def I_rounds (N : Nat) (rt rl : Nat → Nat) (rw : Nat → Nat → Nat) (Rt Rl Rr Ra Mti Mrl Mrr : Nat → Int32) : Prop :=
  (∀ r, r < 6 → Rt r = nI (rt r) ∧ Mti r = nI (rt r) ∧ Rl r = nI (rl r) ∧ Mrl r = nI (rl r)) ∧ (∀ r, rt r ≤ 99 ∧ rl r ≤ 8) ∧ (∀ r i, r < 6 → i < rl r → rw r i < N ∧ nibI (Rr r) i = nI (rw r i) ∧ Mrr (8 * r + i) = nI (rw r i)) ∧ (∀ p, p < 9 → Ra p = nI (hon rt rl rw p))
/-! ways -/
def wr {α : Type} (body : Nat → List α) : Nat → Nat → List α
  | 0, _ => []
  | k + 1, p => body p ++ wr body k (p + 1)
def wg (dS : Nat → Nat) (J : Nat) : Nat → Nat → List Nat → List (List Nat)
  | 0, _, _ => []
  | f + 1, last, path => wr (fun q => if (dS last).testBit q = true ∧ q ∉ path then (if J.testBit q = true then [path ++ [q]] else wg dS J f q (path ++ [q])) else []) 9 0
def wbody (dS : Nat → Nat) (J f last : Nat) (path : List Nat) (q : Nat) : List (List Nat) := if (dS last).testBit q = true ∧ q ∉ path then (if J.testBit q = true then [path ++ [q]] else wg dS J f q (path ++ [q])) else []
theorem wg_succ (dS : Nat → Nat) (J f last : Nat) (path : List Nat) : wg dS J (f + 1) last path = wr (wbody dS J f last path) 9 0 := rfl
def wgate (dS : Nat → Nat) (G J g : Nat) : List (List Nat) := if G.testBit g = true then wg dS J 5 g [g] else []
def ways (dS : Nat → Nat) (G J : Nat) : List (List Nat) := wr (wgate dS G J) 9 0
def wset : List Nat → Nat
  | [] => 0
  | p :: t => 2 ^ p ||| wset t
def enc : List Nat → Nat
  | [] => 0
  | p :: t => (p + 1) + 16 * enc t
def cntP {α : Type} (p : α → Bool) : List α → Nat
  | [] => 0
  | a :: t => (if p a then 1 else 0) + cntP p t
/-- what the book holds of a list of ways: before the sums (eq) and behind them (sub) -/
def BK (WL : List (List Nat)) (rel : Nat → Nat → Bool) (Bt Bi : Nat → Int32) (Bf : Int32) : Prop :=
  Bf = nI (min WL.length 2001) ∧ (∀ i, i < WL.length → i < 2000 → Bt i = nI (enc (WL.getD i []))) ∧ (∀ S, S < 512 → Bi S = nI (cntP (fun w => rel (wset w) S) (WL.take 2001)))
def rEq (T S : Nat) : Bool := decide (T = S)
def rSub (T S : Nat) : Bool := decide (T &&& cmp9 S = 0)
def I_book (dS : Nat → Nat) (G J : Nat) (Bt Bi : Nat → Int32) (Bf Br : Int32) : Prop := Br = 0 ∨ (Br = 1 ∧ BK (ways dS G J) rSub Bt Bi Bf)
def Inv : InvT := fun Pd Pm Ps Pg Pj Bt Bi Bf Br Rt Rl Rr Ra Wt Wa Wk Wd Wn We Wb Hv Mp Mv Mb Me Md Mdo Mk Mm Mta Mkn Mti Mrl Mrr Mt Mn Mw Mwl Mws Mf Mpa Mne =>
  ∃ (N : Nat) (dS : Nat → Nat) (G J dec tn vis dy : Nat) (mk rt rl : Nat → Nat) (rw : Nat → Nat → Nat),
    I_plan N dS G J Pd Ps Pg Pj Mp Mdo Mk ∧ I_marks vis mk Pm Hv Mv Mm ∧ I_watch N G J dec tn dy Wt Wa Wk Wd Wn We Wb Mb Me Md Mta Mkn Mt Mn ∧ I_rounds N rt rl rw Rt Rl Rr Ra Mti Mrl Mrr ∧ I_book dS G J Bt Bi Bf Br
/-! small calls -/
theorem isIn_t {a k b : Nat} (h1 : a ≤ k) (h2 : k ≤ b) (hb : b < 2 ^ 31) {post : Int32 → Prop} (h : post 1) : wp_X5_isIn (nI k) (nI a) (nI b) post :=
  gi_f (nI_nlt h1 (by omega)) (gi_f (nI_nlt h2 hb) h)
theorem isIn_f {x lo hi : Int32} (hx : x < lo ∨ hi < x) {post : Int32 → Prop} (h : post 0) : wp_X5_isIn x lo hi post := by
  refine gi_c (fun _ => h) (fun c1 => ?_)
  rcases hx with q | q
  · exact absurd q c1
  · exact gi_t q h
theorem lt_of_S {b : Nat} {x : Int32} (hb : b + 1 < 2 ^ 31) (h : nI (b + 1) ≤ x) : nI b < x := by
  rw [fa_lt]
  rw [fa_le, nI_toInt hb] at h
  rw [nI_toInt (by omega)]
  omega
theorem place_in {k N : Nat} (hk : k < N) (hN : N ≤ 9) {post : Int32 → Prop} (h : post 1) : wp_X0_hasPlace (nI k) (nI N) post :=
  gi_f (nlt0 (by omega)) (gi_f (nI_ge hk (by omega)) (gi_f (nI_ge (b := 9) (by omega) (by decide)) h))
theorem place_out {x : Int32} {N : Nat} (hx : x < 0 ∨ nI N ≤ x) {post : Int32 → Prop} (h : post 0) : wp_X0_hasPlace x (nI N) post := by
  refine gi_c (fun _ => h) (fun c1 => ?_)
  rcases hx with q | q
  · exact absurd q c1
  · exact gi_t q h
theorem mplace_in {k N : Nat} (hk : k < N) (hN : N ≤ 9) {post : Int32 → Prop} (h : post 1) : wp_X5_isPlace (nI k) (nI N) post := by
  unfold wp_X5_isPlace
  rw [show nI N - 1 = nI (N - 1) from pk_sub (a := N) (b := 1) (by omega)]
  exact isIn_t (a := 0) (Nat.zero_le k) (by omega) (by omega) ⟨gq_zb1, h⟩
theorem mplace_out {x : Int32} {N : Nat} (h2 : 2 ≤ N) (hN : N ≤ 9) (hx : x < 0 ∨ nI N ≤ x) {post : Int32 → Prop} (h : post 0) : wp_X5_isPlace x (nI N) post := by
  unfold wp_X5_isPlace
  rw [show nI N - 1 = nI (N - 1) from pk_sub (a := N) (b := 1) (by omega)]
  refine isIn_f ?_ ⟨gq_zb0, h⟩
  rcases hx with q | q
  · exact Or.inl q
  · refine Or.inr (lt_of_S (by omega) ?_)
    rw [show N - 1 + 1 = N from by omega]
    exact q
theorem marks_in {k : Nat} (hk : k < 256) {post : Int32 → Prop} (h : post 1) : wp_X4_areMarks (nI k) post :=
  gi_f (nlt0 (by omega)) (gi_f (nI_nlt (b := 255) (a := k) |> fun _ => (fun q => absurd ((nI_ltI (a := 255) (by decide) (by omega)).mp q) (by omega))) h)
theorem marks_out {x : Int32} (hx : x < 0 ∨ nI 256 ≤ x) {post : Int32 → Prop} (h : post 0) : wp_X4_areMarks x post := by
  refine gi_c (fun _ => h) (fun c1 => ?_)
  rcases hx with q | q
  · exact absurd q c1
  · exact gi_t (lt_of_S (b := 255) (by decide) q) h
theorem cl9 {k : Nat} (hk : k < 2 ^ 31) : (nI k).toNatClampNeg = k := nI_clamp hk
theorem pow2N {N : Nat} (hN : N ≤ 9) : 2 ^ N ≤ 512 := Nat.pow_le_pow_right (n := 2) (by decide) hN
theorem lt_N {S N k : Nat} (hS : S < 2 ^ N) (h : S.testBit k = true) : k < N := by
  rcases Nat.lt_or_ge k N with q | q
  · exact q
  · rw [Nat.testBit_lt_two_pow (Nat.lt_of_lt_of_le hS (Nat.pow_le_pow_right (by decide) q))] at h
    exact absurd h (by decide)
theorem mdecoy {S k : Nat} (hS : S < 512) (hk : k < 9) {post : Int32 → Prop} (h : post (if S.testBit k then 1 else 0)) : wp_X5_isDecoy (nI k) (nI S) post := by
  unfold wp_X5_isDecoy
  rw [pb_shr S hS k hk]
  refine gi_b1 (fun e => ?_) (fun e => ?_)
  · rw [e] at h; exact h
  · rw [e] at h; exact h
theorem upd_s (f : Nat → Int32) (k : Nat) (x : Int32) : upd f k x k = x := pk_us
theorem upd_n (f : Nat → Int32) {k j : Nat} (x : Int32) (h : j ≠ k) : upd f k x j = f j := pk_un h
/-! the first steps -/
theorem st_visible : Step_visible Inv := by
  intro Pd Pm Ps Pg Pj Bt Bi Bf Br Rt Rl Rr Ra Wt Wa Wk Wd Wn We Wb Hv Mp Mv Mb Me Md Mdo Mk Mm Mta Mkn Mti Mrl Mrr Mt Mn Mw Mwl Mws Mf Mpa Mne hI p1
  have hI0 := hI
  obtain ⟨N, dS, G, J, dec, tn, vis, dy, mk, rt, rl, rw, hP, hM, hW, hR, hB⟩ := hI
  rcases pk_ix p1 (n := 256) (by decide) with c | c | ⟨k, hk, rfl⟩
  · exact marks_out (Or.inl c) (gi_t rfl (isIn_f (Or.inl c) (gi_t rfl ⟨rfl, hI0⟩)))
  · exact marks_out (Or.inr c) (gi_t rfl (isIn_f (Or.inr (lt_of_S (b := 255) (by decide) c)) (gi_t rfl ⟨rfl, hI0⟩)))
  · refine marks_in hk (gi_f (by decide) (isIn_t (a := 0) (b := 255) (Nat.zero_le k) (by omega) (by decide) (gi_f (by decide) ⟨rfl, ?_⟩)))
    exact ⟨N, dS, G, J, dec, tn, k, dy, mk, rt, rl, rw, hP, ⟨hM.1, hM.2.1, rfl, rfl, hk⟩, hW, hR, hB⟩
theorem st_looks : Step_looks Inv := by
  intro Pd Pm Ps Pg Pj Bt Bi Bf Br Rt Rl Rr Ra Wt Wa Wk Wd Wn We Wb Hv Mp Mv Mb Me Md Mdo Mk Mm Mta Mkn Mti Mrl Mrr Mt Mn Mw Mwl Mws Mf Mpa Mne hI p1 p2
  have hI0 := hI
  obtain ⟨N, dS, G, J, dec, tn, vis, dy, mk, rt, rl, rw, hP, hM, hW, hR, hB⟩ := hI
  obtain ⟨⟨hN2, hN9⟩, hPs, hMp, -⟩ := id hP
  subst hPs hMp
  rcases pk_ix p1 (n := N) (by omega) with c | c | ⟨a, ha, rfl⟩
  · exact place_out (Or.inl c) (gi_t rfl (mplace_out hN2 hN9 (Or.inl c) (gi_t rfl ⟨rfl, hI0⟩)))
  · exact place_out (Or.inr c) (gi_t rfl (mplace_out hN2 hN9 (Or.inr c) (gi_t rfl ⟨rfl, hI0⟩)))
  · refine place_in ha hN9 (gi_f (by decide) ?_)
    rcases pk_ix p2 (n := 256) (by decide) with c | c | ⟨k, hk, rfl⟩
    · exact marks_out (Or.inl c) (gi_t rfl (mplace_in ha hN9 (gi_f (by decide) (isIn_f (Or.inl c) (gi_t rfl ⟨rfl, hI0⟩)))))
    · exact marks_out (Or.inr c) (gi_t rfl (mplace_in ha hN9 (gi_f (by decide) (isIn_f (Or.inr (lt_of_S (b := 255) (by decide) c)) (gi_t rfl ⟨rfl, hI0⟩)))))
    · refine marks_in hk (gi_f (by decide) (place_in ha hN9 (gi_f (by decide) ⟨vp_in_nI (by omega) (by decide), gi_n ?_⟩)))
      refine mplace_in ha hN9 (gi_f (by decide) (isIn_t (a := 0) (b := 255) (Nat.zero_le k) (by omega) (by decide) (gi_f (by decide) ⟨vp_in_nI (by omega) (by decide), gi_n ⟨rfl, ?_⟩⟩)))
      rw [cl9 (by omega)]
      refine ⟨N, dS, G, J, dec, tn, vis, dy, fun p => if p = a then k else mk p, rt, rl, rw, hP, ⟨?_, ?_, hM.2.2⟩, hW, hR, hB⟩
      · intro p hp
        rcases Nat.decEq p a with q | q
        · rw [upd_n _ _ q, upd_n _ _ q]
          simp only [if_neg q]
          exact hM.1 p hp
        · subst q
          rw [upd_s, upd_s]
          simp only [if_true]
          exact ⟨trivial, trivial⟩
      · intro p
        show (if p = a then k else mk p) < 256
        rcases Nat.decEq p a with q | q
        · rw [if_neg q]; exact hM.2.1 p
        · rw [if_pos q]; exact hk
theorem st_bear : Step_bear Inv := by
  intro Pd Pm Ps Pg Pj Bt Bi Bf Br Rt Rl Rr Ra Wt Wa Wk Wd Wn We Wb Hv Mp Mv Mb Me Md Mdo Mk Mm Mta Mkn Mti Mrl Mrr Mt Mn Mw Mwl Mws Mf Mpa Mne hI p1
  have hI0 := hI
  obtain ⟨N, dS, G, J, dec, tn, vis, dy, mk, rt, rl, rw, hP, hM, hW, hR, hB⟩ := hI
  rcases pk_ix p1 (n := 10) (by decide) with c | c | ⟨k, hk, rfl⟩
  · have c1 : p1 < 1 := by
      rw [fa_lt] at c ⊢
      exact Int.lt_trans c (by decide)
    exact gi_t c1 (isIn_f (Or.inl c1) (gi_t rfl ⟨rfl, hI0⟩))
  · have c9 : (9 : Int32) < p1 := lt_of_S (b := 9) (by decide) c
    have c1 : ¬ p1 < 1 := by
      rw [fa_le] at c
      rw [fa_lt]
      intro q
      exact absurd (Int.lt_of_le_of_lt c q) (by decide)
    have c2 : ¬ p1 ≤ 9 := by
      rw [fa_lt] at c9
      rw [fa_le]
      omega
    refine gi_f c1 ?_
    first | exact gi_f c2 (isIn_f (Or.inr c9) (gi_t rfl ⟨rfl, hI0⟩)) | exact gi_t c9 (isIn_f (Or.inr c9) (gi_t rfl ⟨rfl, hI0⟩))
  · rcases Nat.lt_or_ge k 1 with q | q
    · have e : k = 0 := by omega
      subst e
      exact gi_t (by decide) (isIn_f (Or.inl (by decide)) (gi_t rfl ⟨rfl, hI0⟩))
    · refine gi_f (nI_nlt (b := 1) q (by omega)) ?_
      have h9 : nI k ≤ 9 := nI_le (b := 9) (by omega) (by decide)
      have h9' : ¬ (9 : Int32) < nI k := fun q => absurd ((nI_ltI (a := 9) (by decide) (by omega)).mp q) (by omega)
      have fin : wp_X5_bear (nI k) Mb (fun (r2 : Int32) (Mb_n : Int32) => 1 = r2 ∧ Inv Pd Pm Ps Pg Pj Bt Bi Bf Br Rt Rl Rr Ra Wt Wa Wk Wd Wn We (nI k) Hv Mp Mv Mb_n Me Md Mdo Mk Mm Mta Mkn Mti Mrl Mrr Mt Mn Mw Mwl Mws Mf Mpa Mne) := by
        refine isIn_t (a := 1) (b := 9) q (by omega) (by decide) (gi_f (by decide) ⟨rfl, ?_⟩)
        obtain ⟨w1, w2, w3, w4, w5, w6, w7, w8, w9, w10⟩ := hW
        exact ⟨N, dS, G, J, dec, tn, vis, dy, mk, rt, rl, rw, hP, hM, ⟨w1, w2, w3, w4, w5, w6, w7, w8, rfl, w10⟩, hR, hB⟩
      first | exact gi_t h9 fin | exact gi_f h9' fin
theorem st_tales : Step_tales Inv := by
  intro Pd Pm Ps Pg Pj Bt Bi Bf Br Rt Rl Rr Ra Wt Wa Wk Wd Wn We Wb Hv Mp Mv Mb Me Md Mdo Mk Mm Mta Mkn Mti Mrl Mrr Mt Mn Mw Mwl Mws Mf Mpa Mne hI p1
  have hI0 := hI
  obtain ⟨N, dS, G, J, dec, tn, vis, dy, mk, rt, rl, rw, hP, hM, hW, hR, hB⟩ := hI
  obtain ⟨⟨hN2, hN9⟩, hPs, hMp, -⟩ := id hP
  subst hPs hMp
  rcases pk_ix p1 (n := N) (by omega) with c | c | ⟨a, ha, rfl⟩
  · exact place_out (Or.inl c) (gi_t rfl (mplace_out hN2 hN9 (Or.inl c) (gi_t rfl ⟨rfl, hI0⟩)))
  · exact place_out (Or.inr c) (gi_t rfl (mplace_out hN2 hN9 (Or.inr c) (gi_t rfl ⟨rfl, hI0⟩)))
  · refine place_in ha hN9 (gi_f (by decide) (gi_f (nlt0 (by omega)) (gi_f (nI_ge (b := 9) (by omega) (by decide)) ⟨vp_in_nI (by omega) (by decide), ?_⟩)))
    refine mplace_in ha hN9 (gi_f (by decide) ⟨vp_in_nI (by omega) (by decide), ⟨?_, hI0⟩⟩)
    obtain ⟨w1, w2, w3, w4, w5, w6, w7, w8, w9, w10, w11, w12, w13, w14⟩ := hW
    rw [cl9 (by omega)]
    exact w13 a ha
theorem st_day : Step_day Inv := by
  intro Pd Pm Ps Pg Pj Bt Bi Bf Br Rt Rl Rr Ra Wt Wa Wk Wd Wn We Wb Hv Mp Mv Mb Me Md Mdo Mk Mm Mta Mkn Mti Mrl Mrr Mt Mn Mw Mwl Mws Mf Mpa Mne hI
  have hI0 := hI
  obtain ⟨N, dS, G, J, dec, tn, vis, dy, mk, rt, rl, rw, hP, hM, hW, hR, hB⟩ := hI
  obtain ⟨w1, w2, w3, w4, w5, w6, w7, w8, w9, w10, w11, w12, w13⟩ := id hW
  subst w10 w11
  rcases Nat.lt_or_ge dy 10000 with q | q
  · refine gi_t (nI_lt (b := 10000) q (by decide)) (gi_n ?_)
    have hne : ¬ nI dy = 10000 := fun e => absurd ((nI_eq (b := 10000) (by omega) (by decide)).mp e) (by omega)
    have fin : gq_nm (nI dy + 1) (fun v2 : Int32 => nI dy + 1 = v2 ∧ Inv Pd Pm Ps Pg Pj Bt Bi Bf Br Rt Rl Rr Ra Wt Wa Wk Wd Wn (nI dy + 1) Wb Hv Mp Mv Mb v2 Md Mdo Mk Mm Mta Mkn Mti Mrl Mrr Mt Mn Mw Mwl Mws Mf Mpa Mne) := by
      refine gi_n ⟨rfl, ⟨N, dS, G, J, dec, tn, vis, dy + 1, mk, rt, rl, rw, hP, hM, ⟨w1, w2, w3, w4, w5, w6, w7, w8, w9, nI_1 dy, nI_1 dy, by omega, w13⟩, hR, hB⟩⟩
    first | exact gi_f hne fin | exact gi_t hne fin
  · have e : dy = 10000 := by omega
    subst e
    unfold wp_X4_day wp_X2_passDay
    rw [if_neg (show ¬ nI 10000 < 10000 by decide)]
    unfold wp_X5_day
    dsimp only
    rw [if_pos (show nI 10000 = 10000 from rfl)]
    exact ⟨rfl, hI0⟩
