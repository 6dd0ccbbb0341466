/-! sets that a caller gives -/
theorem pb_ush : ∀ S, S < 512 → ∀ N, N < 10 → gq_ushr (nI S) (nI N) = nI (S / 2 ^ N) := by decide +kernel
theorem set_in {S N : Nat} (hS : S < 2 ^ N) (hN : N ≤ 9) {post : Int32 → Prop} (h : post 1) : wp_X0_hasSet (nI S) (nI N) post := by
  have h512 := pow2N hN
  refine gi_f (nlt0 (by omega)) (gi_f (nI_ge (b := 512) (by omega) (by decide)) ?_)
  rw [pb_ush S (by omega) N (by omega), Nat.div_eq_of_lt hS]
  exact gi_t rfl h
theorem set_out {x : Int32} {N : Nat} (hN : N ≤ 9) (hx : x < 0 ∨ nI (2 ^ N) ≤ x) {post : Int32 → Prop} (h : post 0) : wp_X0_hasSet x (nI N) post := by
  have h512 := pow2N hN
  refine gi_c (fun _ => h) (fun c1 => gi_c (fun _ => h) (fun c2 => ?_))
  rcases hx with q | q
  · exact absurd q c1
  · rcases pk_ix x (n := 512) (by decide) with c | c | ⟨S, hS, rfl⟩
    · exact absurd c c1
    · exact absurd c c2
    · have hle : 2 ^ N ≤ S := (nI_leI (by omega) (by omega)).mp q
      rw [pb_ush S hS N (by omega)]
      have hd : 0 < S / 2 ^ N := Nat.div_pos hle (Nat.pow_pos (by decide))
      have hd2 : S / 2 ^ N ≤ S := Nat.div_le_self _ _
      exact gi_f (nI_ne0 hd (by omega)) h
theorem full_eq {N : Nat} (hN : N ≤ 9) : ((1 : Int32) <<< (nI N &&& 31)) - 1 = nI (2 ^ N - 1) := by
  rw [pb_one N (by omega), show (1 : Int32) = nI 1 from rfl, pk_sub (Nat.pow_pos (by decide))]
theorem mset_in {S N : Nat} (hS : S < 2 ^ N) (hN : N ≤ 9) {post : Int32 → Prop} (h : post 1) : wp_X5_isSet (nI S) (nI N) post := by
  have h512 := pow2N hN
  unfold wp_X5_isSet
  rw [full_eq hN]
  exact isIn_t (a := 0) (Nat.zero_le S) (by omega) (by omega) ⟨gq_zb1, h⟩
theorem mset_out {x : Int32} {N : Nat} (hN : N ≤ 9) (hx : x < 0 ∨ nI (2 ^ N) ≤ x) {post : Int32 → Prop} (h : post 0) : wp_X5_isSet x (nI N) post := by
  have h512 := pow2N hN
  have hp : 0 < 2 ^ N := Nat.pow_pos (by decide)
  unfold wp_X5_isSet
  rw [full_eq hN]
  refine isIn_f ?_ ⟨gq_zb0, h⟩
  rcases hx with q | q
  · exact Or.inl q
  · refine Or.inr (lt_of_S (by omega) ?_)
    rw [show 2 ^ N - 1 + 1 = 2 ^ N from by omega]
    exact q
/-! a set out of a test -/
def bsF (f : Nat → Bool) (n : Nat) : Nat := gfold (fun i (s : Nat) => if f i then s ||| 2 ^ i else s) n 0
theorem tb_bs (f : Nat → Bool) (k : Nat) : ∀ n, (bsF f n).testBit k = (decide (k < n) && f k)
  | 0 => by
    show (0 : Nat).testBit k = _
    rw [Nat.zero_testBit, decide_eq_false (by omega), Bool.false_and]
  | n + 1 => by
    have ih := tb_bs f k n
    show (if f n then bsF f n ||| 2 ^ n else bsF f n).testBit k = _
    rcases Nat.decEq k n with q | q
    · have e : decide (k < n + 1) = decide (k < n) := by
        rcases Nat.lt_or_ge k n with w | w
        · rw [decide_eq_true w, decide_eq_true (by omega)]
        · rw [decide_eq_false (by omega), decide_eq_false (by omega)]
      rw [e]
      cases f n
      · exact ih
      · show (bsF f n ||| 2 ^ n).testBit k = _
        rw [tb_set, ih, decide_eq_false (fun (h : n = k) => q h.symm), Bool.or_false]
    · subst q
      rw [decide_eq_true (Nat.lt_succ_self k), Bool.true_and]
      rw [decide_eq_false (Nat.lt_irrefl k), Bool.false_and] at ih
      cases hf : f k
      · exact ih
      · show (bsF f k ||| 2 ^ k).testBit k = true
        rw [tb_set, decide_eq_true rfl, Bool.or_true]
theorem bs_lt (f : Nat → Bool) : ∀ n, bsF f n < 2 ^ n
  | 0 => by
    show (0 : Nat) < 2 ^ 0
    decide
  | n + 1 => by
    have ih := bs_lt f n
    have h2 : 2 ^ n < 2 ^ (n + 1) := Nat.pow_lt_pow_right (by decide) (Nat.lt_succ_self n)
    show (if f n then bsF f n ||| 2 ^ n else bsF f n) < 2 ^ (n + 1)
    cases f n
    · show bsF f n < _
      omega
    · exact Nat.or_lt_two_pow (by omega) h2
def knB (Wk : Nat → Int32) (We : Int32) (p : Nat) : Bool := decide (¬ Wk p ≤ We)
theorem sp_known {Wk : Nat → Int32} {We : Int32} {post : Int32 → Prop} (h : post (nI (bsF (knB Wk We) 9))) : wp_X2_knownSet Wk We post := by
  refine gl_for0 (Post := fun s => post (nI s)) (fun n i (s : Nat) => wl_X2_knownSet_4 Wk We post n (nI s) (nI i)) 9 (fun i s => if knB Wk We i then s ||| 2 ^ i else s) 0 ?_ (fun n s hp => gi_t (by decide) hp) h
  intro n i s hi hn
  refine gi_f (nI_ge (b := 9) hi (by decide)) ⟨vp_in_nI hi (by decide), ?_⟩
  rw [cl9 (by omega)]
  refine gi_c (fun c => gi_r (nI_1 i) ?_) (fun c => sp_setOf hi (gi_r (fa_or _ _) (gi_r (nI_1 i) ?_)))
  · have e : knB Wk We i = false := decide_eq_false (fun q => q c)
    rw [e] at hn
    exact hn
  · have e : knB Wk We i = true := decide_eq_true c
    rw [e] at hn
    exact hn
def layN (N G J K : Nat) : Nat := (((2 ^ N - 1) &&& cmp9 G) &&& cmp9 J) &&& cmp9 K
theorem lay_lt {N : Nat} (G J K : Nat) (hN : N ≤ 9) : layN N G J K < 512 := by
  have h512 := pow2N hN
  have hp : 0 < 2 ^ N := Nat.pow_pos (by decide)
  exact lt512_and (lt512_and (lt512_and (by omega)))
theorem tb_lay {N G J K k : Nat} (hk : k < 9) : (layN N G J K).testBit k = (decide (k < N) && !G.testBit k && !J.testBit k && !K.testBit k) := by
  rw [layN, Nat.testBit_and, Nat.testBit_and, Nat.testBit_and, Nat.testBit_two_pow_sub_one, tb_cmp9 _ hk, tb_cmp9 _ hk, tb_cmp9 _ hk]
theorem sp_layable {N G J : Nat} (hN : N ≤ 9) (hG : G < 512) (hJ : J < 512) {Wk : Nat → Int32} {We : Int32} {post : Int32 → Prop} (h : post (nI (layN N G J (bsF (knB Wk We) 9)))) : wp_X4_layableSet (nI N) (nI G) (nI J) Wk We post := by
  have h512 := pow2N hN
  have hp : 0 < 2 ^ N := Nat.pow_pos (by decide)
  have hk : bsF (knB Wk We) 9 < 512 := bs_lt _ 9
  refine sp_known ?_
  rw [full_eq hN, nI_wo (by omega) hG, nI_wo (lt512_and (by omega)) hJ, nI_wo (lt512_and (lt512_and (by omega))) hk]
  exact h
theorem sub_iff {S T : Nat} (hS : S < 512) : S &&& cmp9 T = 0 ↔ ∀ k, k < 9 → S.testBit k = true → T.testBit k = true := by
  constructor
  · intro h k hk hs
    have h1 : (S &&& cmp9 T).testBit k = false := by rw [h, Nat.zero_testBit]
    rw [Nat.testBit_and, tb_cmp9 _ hk, hs, Bool.true_and] at h1
    cases ht : T.testBit k
    · rw [ht] at h1; exact absurd h1 (by decide)
    · rfl
  · intro h
    apply tb_ext (lt512_and hS) (by decide)
    intro k hk
    rw [Nat.testBit_and, tb_cmp9 _ hk, Nat.zero_testBit]
    cases hs : S.testBit k
    · rfl
    · rw [h k hk hs]; rfl
theorem gf_all (f : Nat → Bool) : ∀ n, gfold (fun p (b : Bool) => b && f p) n true = true ↔ ∀ p, p < n → f p = true
  | 0 => ⟨fun _ p h => absurd h (Nat.not_lt_zero p), fun _ => rfl⟩
  | n + 1 => by
    show (gfold (fun p (b : Bool) => b && f p) n true && f n) = true ↔ _
    rw [Bool.and_eq_true, gf_all f n]
    constructor
    · intro h p hp
      rcases Nat.lt_or_ge p n with q | q
      · exact h.1 p q
      · have e : p = n := by omega
        rw [e]; exact h.2
    · intro h
      exact ⟨fun p hp => h p (by omega), h n (by omega)⟩
def frB (S G J : Nat) (kn : Nat → Bool) (p : Nat) : Bool := !S.testBit p || (decide (kd G J p = 0) && !kn p)
def freeB (N S G J : Nat) (kn : Nat → Bool) : Bool := gfold (fun p (b : Bool) => b && frB S G J kn p) N true
theorem sp_isFree {N S G J : Nat} (hN : N ≤ 9) (hS : S < 512) {Me : Int32} {Mk Mkn : Nat → Int32} (hMk : ∀ p, p < 9 → Mk p = nI (kd G J p)) {post : Int32 → Prop} (h : post (if freeB N S G J (knB Mkn Me) then 1 else 0)) : wp_X5_isFree (nI S) (nI N) Me Mk Mkn post := by
  refine gl_for0 (Post := fun (b : Bool) => post (if b then 1 else 0)) (fun n i (b : Bool) => wl_X5_isFree_4 (nI S) (nI N) Me Mk Mkn post n (if b then 1 else 0) (nI i)) N (fun p b => b && frB S G J (knB Mkn Me) p) true ?_ (fun n b hp => gi_t (nI_le (Nat.le_refl N) (by omega)) ⟨gi_zb b, hp⟩) h
  intro n i b hi hn
  refine gi_f (nI_ge hi (by omega)) (gi_b (fun hb => ?_) (fun hb => ?_))
  · subst hb
    exact gi_r (nI_1 i) hn
  · subst hb
    rw [pb_shr S hS i (by omega)]
    refine gi_b (fun hs => ?_) (fun hs => ⟨vp_in_nI (by omega) (by decide), ?_⟩)
    · have e : (true && frB S G J (knB Mkn Me) i) = true := by rw [frB, hs]; rfl
      simp only [e] at hn
      exact gi_r (nI_1 i) hn
    · rw [cl9 (by omega), hMk i (by omega)]
      have hkd : kd G J i ≤ 2 := by
        unfold kd
        cases G.testBit i <;> cases J.testBit i <;> decide
      rcases Nat.decEq (kd G J i) 0 with q | q
      · have e : (true && frB S G J (knB Mkn Me) i) = false := by rw [frB, hs, decide_eq_false q]; rfl
        simp only [e] at hn
        exact gi_f (nI_ne0 (by omega) (by omega)) (gi_r (nI_1 i) hn)
      · refine gi_t (by rw [q]; rfl) ⟨vp_in_nI (by omega) (by decide), ?_⟩
        rw [cl9 (by omega)]
        refine gi_c (fun c => ?_) (fun c => ?_)
        · have e : (true && frB S G J (knB Mkn Me) i) = true := by rw [frB, hs, decide_eq_true q, knB, decide_eq_false (fun w => w c)]; rfl
          simp only [e] at hn
          exact gi_t rfl (gi_r (nI_1 i) hn)
        · have e : (true && frB S G J (knB Mkn Me) i) = false := by rw [frB, hs, decide_eq_true q, knB, decide_eq_true c]; rfl
          simp only [e] at hn
          exact gi_f (by decide) (gi_r (nI_1 i) hn)
/-- the reference's test and the class's say the same -/
theorem free_iff {N S G J dy : Nat} (hN : N ≤ 9) (hS : S < 2 ^ N) {Wk Mkn : Nat → Int32} (hk : ∀ p, p < N → Wk p = Mkn p) (hk0 : ∀ p, N ≤ p → p < 9 → Wk p = 0) : freeB N S G J (knB Mkn (nI dy)) = decide (S &&& cmp9 (layN N G J (bsF (knB Wk (nI dy)) 9)) = 0) := by
  have h512 := pow2N hN
  have key : freeB N S G J (knB Mkn (nI dy)) = true ↔ S &&& cmp9 (layN N G J (bsF (knB Wk (nI dy)) 9)) = 0 := by
    rw [freeB, gf_all, sub_iff (by omega)]
    constructor
    · intro h k hk9 hs
      have hkN := lt_N hS hs
      have h1 := h k hkN
      rw [frB, hs] at h1
      rw [tb_lay hk9, tb_bs, decide_eq_true hkN, decide_eq_true hk9]
      have e : knB Wk (nI dy) k = knB Mkn (nI dy) k := by unfold knB; rw [hk k hkN]
      rw [e]
      unfold kd at h1
      revert h1
      cases G.testBit k <;> cases J.testBit k <;> cases knB Mkn (nI dy) k <;> simp
    · intro h p hp
      cases hs : S.testBit p
      · rw [frB, hs]; rfl
      · have h1 := h p (by omega) hs
        rw [tb_lay (by omega), tb_bs, decide_eq_true hp, decide_eq_true (show p < 9 by omega)] at h1
        have e : knB Wk (nI dy) p = knB Mkn (nI dy) p := by unfold knB; rw [hk p hp]
        rw [e] at h1
        rw [frB, hs]
        unfold kd
        revert h1
        cases G.testBit p <;> cases J.testBit p <;> cases knB Mkn (nI dy) p <;> simp
  rcases Decidable.em (S &&& cmp9 (layN N G J (bsF (knB Wk (nI dy)) 9)) = 0) with q | q
  · rw [decide_eq_true q]; exact key.mpr q
  · rw [decide_eq_false q]
    cases hf : freeB N S G J (knB Mkn (nI dy))
    · rfl
    · exact absurd (key.mp hf) q
/-! lay -/
theorem gf_clear (f : Nat → Bool) (g : Nat → Int32) (k : Nat) : ∀ n, gfold (fun i (s : Nat → Int32) => if f i then s else upd s i 0) n g k = if k < n then (if f k then g k else 0) else g k
  | 0 => rfl
  | n + 1 => by
    have ih := gf_clear f g k n
    show (if f n then gfold (fun i (s : Nat → Int32) => if f i then s else upd s i 0) n g else upd (gfold (fun i (s : Nat → Int32) => if f i then s else upd s i 0) n g) n 0) k = _
    rcases Nat.decEq k n with q | q
    · have e : (k < n + 1) = (k < n) := propext ⟨fun h => by omega, fun h => by omega⟩
      simp only [e]
      cases f n
      · show upd _ n 0 k = _
        rw [upd_n _ _ q]; exact ih
      · exact ih
    · subst q
      rw [if_neg (Nat.lt_irrefl k)] at ih
      rw [if_pos (Nat.lt_succ_self k)]
      cases hf : f k
      · show upd _ k 0 k = _
        rw [upd_s]; rfl
      · exact ih
theorem st_lay : Step_lay Inv := by
  intro Pd Pm Ps Pg Pj Bt Bi Bf Br Rt Rl Rr Ra Wt Wa Wk Wd Wn We Wb Hv Mp Mv Mb Me Md Mdo Mk Mm Mta Mkn Mti Mrl Mrr Mt Mn Mw Mwl Mws Mf Mpa Mne hI p1
  have hI0 := hI
  obtain ⟨N, dS, G, J, dec, tn, vis, dy, mk, rt, rl, rw, hP, hM, hW, hR, hB⟩ := hI
  obtain ⟨⟨hN2, hN9⟩, hPs, hMp, hPd, hdS, hdN, hMdo, hG, hJ, hGJ, hPg, hPj, hMk⟩ := hP
  obtain ⟨w1, w2, w3, w4, w5, w6, w7, w8, w9, w10, w11, w12, w13, w14, w15⟩ := hW
  subst hPs hMp hPg hPj w2 w3 w10 w11
  have h512 := pow2N hN9
  rcases pk_ix p1 (n := 2 ^ N) (by omega) with c | c | ⟨S, hS, rfl⟩
  · exact set_out hN9 (Or.inl c) (gi_t rfl (mset_out hN9 (Or.inl c) (gi_t rfl ⟨rfl, hI0⟩)))
  · exact set_out hN9 (Or.inr c) (gi_t rfl (mset_out hN9 (Or.inr c) (gi_t rfl ⟨rfl, hI0⟩)))
  · refine set_in hS hN9 (gi_f (by decide) (sp_layable hN9 (by omega) (by omega) ?_))
    have hL := lay_lt G J (bsF (knB Wk (nI dy)) 9) hN9
    have hfr := free_iff (G := G) (J := J) (dy := dy) hN9 hS w14 w15
    have hlayt : ∀ k, k < 9 → (layN N G J (bsF (knB Wk (nI dy)) 9)).testBit k = (decide (k < N) && !G.testBit k && !J.testBit k && !(bsF (knB Wk (nI dy)) 9).testBit k) := fun k hk => tb_lay hk
    generalize layN N G J (bsF (knB Wk (nI dy)) 9) = Ly at hL hfr hlayt ⊢
    rw [nI_wo (by omega) hL]
    have hle : S &&& cmp9 Ly ≤ S := Nat.and_le_left
    rcases Decidable.em (S &&& cmp9 Ly = 0) with q | q
    · refine gi_t (by rw [q]; rfl) ?_
      have hsub := (sub_iff (by omega)).mp q
      refine gl_for0 (Post := fun (s : Nat → Int32) => _) (fun n i (s : Nat → Int32) => wl_X2_layDecoys_2 (nI S) (nI dec) _ n (nI i) s) 9 (fun i s => if (S &&& dec).testBit i then s else upd s i 0) Wa ?_ (fun n s hp => gi_t (by decide) hp) ?_
      · intro n i s hi hn
        refine gi_f (nI_ge (b := 9) hi (by decide)) ?_
        rw [fa_and]
        refine sp_has (lt512_and (by omega)) hi (gi_b (fun hb => ⟨vp_in_nI hi (by decide), gi_n (gi_r (nI_1 i) ?_)⟩) (fun hb => gi_r (nI_1 i) ?_))
        · rw [cl9 (by omega)]; rw [hb] at hn; exact hn
        · rw [hb] at hn; exact hn
      · refine mset_in hS hN9 (gi_f (by decide) (sp_isFree hN9 (by omega) hMk ?_))
        rw [hfr, decide_eq_true q]
        refine gi_f (by decide) ?_
        refine gl_for0 (Post := fun (s : Nat → Int32) => _) (fun n i (s : Nat → Int32) => wl_X5_lay_20 (nI S) (nI N) (nI dec) _ n (nI i) s) N (fun i s => if (S &&& dec).testBit i then s else upd s i 0) Mta ?_ (fun n s hp => gi_t (nI_le (Nat.le_refl N) (by omega)) hp) ?_
        · intro n i s hi hn
          refine gi_f (nI_ge hi (by omega)) ?_
          rw [pb_shr S (by omega) i (by omega)]
          rw [Nat.testBit_and] at hn
          have hv : vp_in (nI i) 9 := vp_in_nI (by omega) (by decide)
          refine gi_b (fun hb => ⟨hv, gi_n (gi_r (nI_1 i) ?_)⟩) (fun hb => ?_)
          · rw [cl9 (by omega)]; rw [hb] at hn; exact hn
          · refine mdecoy (by omega) (by omega) ?_
            rw [hb, Bool.true_and] at hn
            refine gi_b (fun hd => ⟨hv, gi_n (gi_r (nI_1 i) ?_)⟩) (fun hd => gi_r (nI_1 i) ?_)
            · rw [cl9 (by omega)]; rw [hd] at hn; exact hn
            · rw [hd] at hn; exact hn
        · refine ⟨rfl, ⟨N, dS, G, J, S, 0, vis, dy, mk, rt, rl, rw, ⟨⟨hN2, hN9⟩, rfl, rfl, hPd, hdS, hdN, hMdo, hG, hJ, hGJ, rfl, rfl, hMk⟩, hM, ⟨hS, rfl, rfl, ?_, by decide, rfl, rfl, ?_, w9, rfl, rfl, w12, ?_, w14, w15⟩, hR, hB⟩⟩
          · intro p hp
            have hpN := lt_N hS hp
            have h1 := hsub p (by omega) hp
            rw [hlayt p (by omega)] at h1
            revert h1
            cases G.testBit p <;> cases J.testBit p <;> simp
          · intro i h
            exact absurd h (by omega)
          · intro p hp
            rw [gf_clear, gf_clear, if_pos hp, if_pos (by omega), w13 p hp]
    · refine gi_f (nI_ne0 (by omega) (by omega)) (mset_in hS hN9 (gi_f (by decide) (sp_isFree hN9 (by omega) hMk ?_)))
      rw [hfr, decide_eq_false q]
      exact gi_t rfl ⟨rfl, hI0⟩
