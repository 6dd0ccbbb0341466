/-! move -/
theorem popc_split {S D : Nat} (hS : S < 512) : popc (S &&& D) + popc (S &&& cmp9 D) = popc S := by
  unfold popc
  rw [← gs_add]
  refine gs_cong (fun k hk => ?_)
  rw [Nat.testBit_and, Nat.testBit_and, tb_cmp9 _ hk]
  cases S.testBit k <;> cases D.testBit k <;> rfl
def mft (p1 p2 : Int32) (T H : Nat → Nat) (dec Ly S : Nat) : Bool := decide (S &&& cmp9 Ly = 0) && (decide (popc S = popc dec) && (decide (¬ p1 < nI (H S)) && decide (¬ nI (T S) < p2)))
def mbt (T : Nat → Nat) (dec S B : Nat) : Bool := decide (popc (B &&& dec) < popc (S &&& dec)) || (decide (popc (S &&& dec) = popc (B &&& dec)) && decide (T B < T S))
def mvs (p1 p2 : Int32) (T H : Nat → Nat) (dec Ly S : Nat) (o : Option Nat) : Option Nat :=
  if mft p1 p2 T H dec Ly S then (match o with
    | none => some S
    | some B => if mbt T dec S B then some S else some B) else o
/-- what the best move so far is -/
def mvI (dec : Nat) (o : Option Nat) : Prop := ∀ s, o = some s → s < 512 ∧ popc s = popc dec
theorem mvs_I {p1 p2 : Int32} {T H : Nat → Nat} {dec Ly i : Nat} {o : Option Nat} (hi : i < 512) (ho : mvI dec o) : mvI dec (mvs p1 p2 T H dec Ly i o) := by
  intro s hs
  unfold mvs at hs
  cases hf : mft p1 p2 T H dec Ly i
  · rw [hf, if_neg (by decide)] at hs
    exact ho s hs
  · rw [hf, if_pos rfl] at hs
    have hpc : popc i = popc dec := by
      unfold mft at hf
      rw [Bool.and_eq_true, Bool.and_eq_true] at hf
      exact of_decide_eq_true hf.2.1
    cases o with
    | none =>
      have e : i = s := by injection hs
      exact ⟨by omega, by rw [← e]; exact hpc⟩
    | some B =>
      have hB := ho B rfl
      have hs2 : (if mbt T dec i B then some i else some B) = some s := hs
      cases hm : mbt T dec i B
      · rw [hm, if_neg (by decide)] at hs2
        have e : B = s := by injection hs2
        rw [← e]; exact hB
      · rw [hm, if_pos rfl] at hs2
        have e : i = s := by injection hs2
        exact ⟨by omega, by rw [← e]; exact hpc⟩
theorem mvs_all {N G J K : Nat} (hN : N ≤ 9) {p1 p2 : Int32} {T H : Nat → Nat} {dec : Nat} : gfold (mvs p1 p2 T H dec (layN N G J K)) (2 ^ N) none = gfold (mvs p1 p2 T H dec (layN N G J K)) (layN N G J K + 1) none := by
  have h512 := pow2N hN
  have hp : 0 < 2 ^ N := Nat.pow_pos (by decide)
  have hle := lay_le N G J K
  refine gf_stop (by omega) (fun i s h1 h2 => ?_)
  unfold mvs mft
  rw [decide_eq_false (fun h => absurd (sub_le (by omega) (lay_lt G J K hN) h) (by omega))]
  rfl
theorem bmove_sp {WL : List (List Nat)} {Bt Bi : Nat → Int32} {Bf : Int32} {S B dec : Nat} (hl : WL.length ≤ 2000) (hB : BK WL rSub Bt Bi Bf) (hS9 : S < 512) (hB9 : B < 512) {post : Int32 → Prop} (hp : post (if mbt (tch WL) dec S B then 1 else 0)) : wp_X4_isBetterMove (nI S) (nI B) Bi Bf (nI dec) post := by
  have t1 := tch_le WL S
  have t2 := tch_le WL B
  have p1 := popc_le (S &&& dec)
  have p2 := popc_le (B &&& dec)
  refine gi_dec ?_
  rw [fa_and, fa_and]
  refine sp_bc (lt512_and hS9) ?_
  refine sp_bc (lt512_and hB9) ?_
  refine gi_n ?_
  unfold mbt at hp
  rcases Nat.lt_trichotomy (popc (S &&& dec)) (popc (B &&& dec)) with q | q | q
  · rw [decide_eq_false (show ¬ popc (B &&& dec) < popc (S &&& dec) by omega), decide_eq_false (show ¬ popc (S &&& dec) = popc (B &&& dec) by omega)] at hp
    exact gi_f (fun c => absurd ((sub0 (by omega) (by omega)).mp c) (by omega)) (gi_t ((subLe (by omega) (by omega)).mpr (by omega)) hp)
  · rw [decide_eq_false (show ¬ popc (B &&& dec) < popc (S &&& dec) by omega), decide_eq_true q, Bool.false_or, Bool.true_and] at hp
    refine gi_t ((sub0 (by omega) (by omega)).mpr q) ?_
    refine ct_sp hl hB hS9 ?_
    refine ct_sp hl hB hB9 ?_
    rcases Nat.lt_or_ge (tch WL B) (tch WL S) with u | u
    · rw [decide_eq_true u] at hp
      exact gi_f (nI_ge u (by omega)) hp
    · rw [decide_eq_false (show ¬ tch WL B < tch WL S by omega)] at hp
      exact gi_t (nI_le u (by omega)) hp
  · rw [decide_eq_true q] at hp
    exact gi_f (fun c => absurd ((sub0 (by omega) (by omega)).mp c) (by omega)) (gi_f (fun c => absurd ((subLe (by omega) (by omega)).mp c) (by omega)) hp)
theorem findMove_sp {N G J dy dec : Nat} {WL : List (List Nat)} {Bt Bi : Nat → Int32} {Bf : Int32} {h : Nat → Nat} {Ra Wk : Nat → Int32} {p1 p2 : Int32} (hN : N ≤ 9) (hG : G < 512) (hJ : J < 512) (hd : dec < 512) (hl : WL.length ≤ 2000) (hB : BK WL rSub Bt Bi Bf) (hRa : ∀ p, p < 9 → Ra p = nI (h p)) {post : Int32 → Prop} (hp : post (oI (gfold (mvs p1 p2 (tch WL) (hS h) dec (layN N G J (bsF (knB Wk (nI dy)) 9))) (layN N G J (bsF (knB Wk (nI dy)) 9) + 1) none))) : wp_X4_findMove p1 p2 (nI N) (nI G) (nI J) Bi Bf Ra Wk (nI dec) (nI dy) post := by
  refine gi_dec ?_
  refine sp_bc hd ?_
  refine sp_layable hN hG hJ ?_
  have hL := lay_lt G J (bsF (knB Wk (nI dy)) 9) hN
  generalize layN N G J (bsF (knB Wk (nI dy)) 9) = Ly at hL hp ⊢
  refine gl_for (Post := fun (o : Option Nat) => post (oI o)) (fun n i (o : Option Nat) => wl_X4_findMove_23 p1 p2 Bi Bf Ra (nI dec) (nI (popc dec)) (nI Ly) post n (oI o) (nI i)) (Ly + 1) (mvs p1 p2 (tch WL) (hS h) dec Ly) (fun i o => mvI dec o) none (fun s h => by cases h) (fun i o hi ho => mvs_I (by omega) ho) ?_ (fun n o _ hp => gi_t (nI_lt (by omega) (by omega)) hp) hp
  intro n i o hi ho hn
  have hi9 : i < 512 := by omega
  have hle : i &&& cmp9 Ly ≤ i := Nat.and_le_left
  have q1 := popc_le i
  have q2 := popc_le dec
  unfold mvs mft at hn
  refine gi_f (nI_nlt (by omega) (by omega)) ?_
  rw [nI_wo hi9 hL]
  rcases Nat.decEq (i &&& cmp9 Ly) 0 with q | q
  · rw [decide_eq_false q] at hn
    exact gi_f (nI_ne0 (by omega) (by omega)) (gi_t rfl (gi_r (nI_1 i) hn))
  · rw [decide_eq_true q] at hn
    refine gi_t (by rw [q]; rfl) ?_
    refine sp_bc hi9 ?_
    rcases Nat.decEq (popc i) (popc dec) with r | r
    · rw [decide_eq_false r] at hn
      exact gi_f (fun c => r ((nI_eq (by omega) (by omega)).mp c)) (gi_t rfl (gi_r (nI_1 i) hn))
    · rw [decide_eq_true r] at hn
      refine gi_t (by rw [r]) ?_
      refine sp_touches hi9 hRa ?_
      refine gi_c (fun d => ?_) (fun d => ?_)
      · rw [decide_eq_false (show ¬ ¬ p1 < nI (hS h i) from fun w => w d)] at hn
        exact gi_t rfl (gi_r (nI_1 i) hn)
      · rw [decide_eq_true d] at hn
        refine ct_sp hl hB hi9 ?_
        refine gi_c (fun e => ?_) (fun e => ?_)
        · rw [decide_eq_false (show ¬ ¬ nI (tch WL i) < p2 from fun w => w e)] at hn
          exact gi_t rfl (gi_r (nI_1 i) hn)
        · rw [decide_eq_true e] at hn
          refine gi_f (by decide) ?_
          cases o with
          | none => exact gi_t rfl (gi_r (nI_1 i) hn)
          | some B =>
            have hB9 := (ho B rfl).1
            refine gi_f (nI_m1 (by omega)) ?_
            refine bmove_sp hl hB hi9 hB9 ?_
            have hn2 : wl_X4_findMove_23 p1 p2 Bi Bf Ra (nI dec) (nI (popc dec)) (nI Ly) post n (oI (if mbt (tch WL) dec i B then some i else some B)) (nI (i + 1)) := hn
            refine gi_b (fun e => ?_) (fun e => ?_)
            · rw [e] at hn2
              exact gi_r (nI_1 i) hn2
            · rw [e] at hn2
              exact gi_r (nI_1 i) hn2
def oS (dec : Nat) : Option Nat → Int32
  | none => 0
  | some s => nI (popc (s &&& dec))
def oT (T : Nat → Nat) : Option Nat → Int32
  | none => 0
  | some s => nI (T s)
theorem mmove_sp {N G J dy dec : Nat} {rt rl : Nat → Nat} {rw : Nat → Nat → Nat} {Rt Rl Rr Ra Mti Mrl Mrr : Nat → Int32} {WL : List (List Nat)} {Mw Mwl Mws : Nat → Int32} {Mf : Int32} {Mk Mkn Wk : Nat → Int32} {p1 p2 : Int32} (hN : N ≤ 9) (hd : dec < 512) (hM : MOK WL Mw Mwl Mws Mf) (hws : ∀ w ∈ WL, wset w < 512) (hMk : ∀ p, p < 9 → Mk p = nI (kd G J p)) (w14 : ∀ p, p < N → Wk p = Mkn p) (w15 : ∀ p, N ≤ p → p < 9 → Wk p = 0) (hR : I_rounds N rt rl rw Rt Rl Rr Ra Mti Mrl Mrr) {X : Int32 → Int32 → Int32 → Int32 → Prop} (hX : ∀ o, o = gfold (mvs p1 p2 (tch WL) (hS (hon rt rl rw)) dec (layN N G J (bsF (knB Wk (nI dy)) 9))) (2 ^ N) none → mvI dec o → X (oI o) (oS dec o) (oT (tch WL) o) (nI (2 ^ N))) : ∃ k38, wl_X5_move_38 p1 p2 (nI N) (nI dy) (nI dec) Mk Mkn Mti Mrl Mrr Mws Mf X k38 (-1) 0 0 0 := by
  have h512 := pow2N hN
  have hH : ∀ S, hS (hon rt rl rw) S ≤ 4752 := fun S => by rw [hon_eq (rw9 hN hR)]; exact mS_le S hR.2.1
  have hone : (1 : Int32) <<< (nI N &&& 31) = nI (2 ^ N) := pb_one N (by omega)
  have hfr : ∀ S, S < 2 ^ N → freeB N S G J (knB Mkn (nI dy)) = decide (S &&& cmp9 (layN N G J (bsF (knB Wk (nI dy)) 9)) = 0) := fun S hS => free_iff hN hS w14 w15
  have eh : ∀ S, mS rt rl rw S = hS (hon rt rl rw) S := fun S => (hon_eq (rw9 hN hR)).symm
  have hlen := hM.2.1
  generalize layN N G J (bsF (knB Wk (nI dy)) 9) = Ly at hfr hX
  have hIall : ∀ n, n ≤ 2 ^ N → mvI dec (gfold (mvs p1 p2 (tch WL) (hS (hon rt rl rw)) dec Ly) n none) := by
    intro n
    induction n with
    | zero => intro _ s h; cases h
    | succ n ih => intro hn; exact mvs_I (by omega) (ih (by omega))
  refine gl_for (Post := fun (o : Option Nat) => X (oI o) (oS dec o) (oT (tch WL) o) (nI (2 ^ N))) (fun n i (o : Option Nat) => wl_X5_move_38 p1 p2 (nI N) (nI dy) (nI dec) Mk Mkn Mti Mrl Mrr Mws Mf X n (oI o) (oS dec o) (oT (tch WL) o) (nI i)) (2 ^ N) (mvs p1 p2 (tch WL) (hS (hon rt rl rw)) dec Ly) (fun i o => mvI dec o) none (fun s h => by cases h) (fun i o hi ho => mvs_I (by omega) ho) ?_ ?_ (hX _ rfl (hIall _ (Nat.le_refl _)))
  · intro n i o hi ho hn
    have hi9 : i < 512 := by omega
    have t1 := tch_le WL i
    have q1 := popc_le i
    have q2 := popc_le dec
    have h1 := hH i
    unfold wl_X5_move_38
    rw [hone]
    refine gi_f (nI_ge hi (by omega)) ?_
    unfold mvs mft at hn
    refine sp_bits hi9 ?_
    refine sp_bits hd ?_
    rcases Nat.decEq (popc i) (popc dec) with r | r
    · rw [decide_eq_false r, Bool.false_and, Bool.and_false] at hn
      exact gi_f (fun c => r ((nI_eq (by omega) (by omega)).mp c)) (gi_r (nI_1 i) hn)
    · rw [decide_eq_true r, Bool.true_and] at hn
      refine gi_t (by rw [r]) ?_
      refine sp_isFree hN hi9 hMk ?_
      rw [hfr i hi]
      refine gi_b (fun e => ?_) (fun e => ?_)
      · rw [e] at hn
        exact gi_r (nI_1 i) hn
      · rw [e, Bool.true_and] at hn
        refine sp_honestOf hN hi9 hR ?_
        rw [eh]
        rcases Decidable.em (p1 < nI (hS (hon rt rl rw) i)) with d | d
        · rw [decide_eq_false (show ¬ ¬ p1 < nI (hS (hon rt rl rw) i) from fun w => w d)] at hn
          refine gi_f ?_ (gi_r (nI_1 i) hn)
          rw [fa_lt] at d
          rw [fa_le]
          omega
        · rw [decide_eq_true d, Bool.true_and] at hn
          refine gi_t ?_ ?_
          · rw [fa_lt] at d
            rw [fa_le]
            omega
          · refine mt_sp hM hws hi9 ?_
            rw [fa_and]
            refine sp_bits (lt512_and hi9) ?_
            refine gi_c (fun e2 => ?_) (fun e2 => ?_)
            · rw [decide_eq_false (show ¬ ¬ nI (tch WL i) < p2 from fun w => w e2)] at hn
              exact gi_r (nI_1 i) hn
            · rw [decide_eq_true e2] at hn
              cases o with
              | none => exact gi_t rfl (gi_r (nI_1 i) hn)
              | some B =>
                have hB9 := (ho B rfl).1
                have t2 := tch_le WL B
                have q3 := popc_le (i &&& dec)
                have q4 := popc_le (B &&& dec)
                refine gi_f (nI_m1 (by omega)) ?_
                have hn2 : ∀ o2, (if mbt (tch WL) dec i B then some i else some B) = o2 → wl_X5_move_38 p1 p2 (nI N) (nI dy) (nI dec) Mk Mkn Mti Mrl Mrr Mws Mf X n (oI o2) (oS dec o2) (oT (tch WL) o2) (nI (i + 1)) := fun o2 e => e ▸ hn
                unfold mbt at hn2
                rcases Nat.lt_trichotomy (popc (i &&& dec)) (popc (B &&& dec)) with u | u | u
                · have hn3 := hn2 (some B) (by rw [decide_eq_false (show ¬ popc (B &&& dec) < popc (i &&& dec) by omega), decide_eq_false (show ¬ popc (i &&& dec) = popc (B &&& dec) by omega)]; rfl)
                  exact gi_t (nI_lt u (by omega)) (gi_r (nI_1 i) hn3)
                · refine gi_f (nI_nlt (by omega) (by omega)) (gi_t (by rw [u]; rfl) ?_)
                  rcases Nat.lt_or_ge (tch WL B) (tch WL i) with v | v
                  · have hn3 := hn2 (some i) (by rw [decide_eq_true u, decide_eq_true v]; simp)
                    exact gi_t (nI_lt v (by omega)) (gi_r (nI_1 i) hn3)
                  · have hn3 := hn2 (some B) (by rw [decide_eq_false (show ¬ popc (B &&& dec) < popc (i &&& dec) by omega), decide_eq_false (show ¬ tch WL B < tch WL i by omega)]; simp)
                    exact gi_f (nI_nlt v (by omega)) (gi_r (nI_1 i) hn3)
                · have hn3 := hn2 (some i) (by rw [decide_eq_true u]; rfl)
                  exact gi_f (nI_nlt (by omega) (by omega)) (gi_f (fun c => absurd ((nI_eq (by omega) (by omega)).mp c) (by omega)) (gi_r (nI_1 i) hn3))
  · intro n o _ hp
    unfold wl_X5_move_38
    rw [hone]
    exact gi_t (nI_le (Nat.le_refl _) (by omega)) hp
theorem st_move : Step_move Inv := by
  intro Pd Pm Ps Pg Pj Bt Bi Bf Br Rt Rl Rr Ra Wt Wa Wk Wd Wn We Wb Hv Mp Mv Mb Me Md Mdo Mk Mm Mta Mkn Mti Mrl Mrr Mt Mn Mw Mwl Mws Mf Mpa Mne hI p1 p2 p3
  have hI0 := hI
  obtain ⟨N, dS, G, J, dec, tn, vis, dy, mk, rt, rl, rw, hP, hM, hW, hR, hB⟩ := hI
  obtain ⟨⟨hN2, hN9⟩, hPs, hMp, hPd, hdS, hdN, hMdo, hG, hJ, hGJ, hPg, hPj, hMk⟩ := id hP
  obtain ⟨w1, w2, w3, w4, w5, w6, w7, w8, w9, w10, w11, w12, w13, w14, w15⟩ := id hW
  subst hPs hMp hPg hPj w2 w3 w10 w11
  have h512 := pow2N hN9
  unfold wp_X4_move
  refine gi_c (fun c => gi_t c ⟨rfl, hI0⟩) (fun c1 => gi_c (fun c => gi_f c1 (gi_t c ⟨rfl, hI0⟩)) (fun c2 => ?_))
  refine book_sp hN9 hPd hdS hG (by omega) hB (fun Bt' Bi' Bf' hBK => ?_)
  have fin : ∀ a b c d e g, Inv Pd Pm (nI N) (nI G) (nI J) Bt' Bi' Bf' 1 Rt Rl Rr Ra Wt Wa Wk (nI dec) Wn (nI dy) Wb Hv (nI N) Mv Mb (nI dy) (nI dec) Mdo Mk Mm Mta Mkn Mti Mrl Mrr Mt Mn a b c d e g := fun a b c d e g => ⟨N, dS, G, J, dec, tn, vis, dy, mk, rt, rl, rw, hP, hM, hW, hR, Or.inr ⟨rfl, hBK⟩⟩
  have hws := ways_ws dS G J
  have hfin := @finds_sp N dS G J Mdo Mk
  generalize ways dS G J = WL at hBK fin hws hfin
  rcases Nat.lt_or_ge 2000 WL.length with hbig | hsm
  · refine count_out hbig hBK ?_
    refine gi_t rfl ?_
    refine gi_f c1 ?_
    refine gi_f c2 ?_
    refine isIn_any ?_ ?_
    · exact gi_t rfl ⟨rfl, fin _ _ _ _ _ _⟩
    · refine gi_f (by decide) ?_
      refine hfin hN9 hG hdS hMdo hGJ hMk (fun _ a b c d e g => ?_) (fun h => absurd h (by omega))
      exact gi_t rfl ⟨rfl, fin _ _ _ _ _ _⟩
  · refine count_in hsm hBK ?_
    refine gi_f (nI_m1 (by omega)) ?_
    refine findMove_sp hN9 (by omega) (by omega) (by omega) hsm hBK hR.2.2.2 ?_
    have mod : ∀ (o : Option Nat) (r : Int32), o = gfold (mvs p1 p2 (tch WL) (hS (hon rt rl rw)) dec (layN N G J (bsF (knB Wk (nI dy)) 9))) (2 ^ N) none → (mvI dec o → (o = none → r = -1) ∧ (∀ s, o = some s → (p3 = 0 → r = nI s) ∧ (p3 = 1 → r = nI (popc dec) - nI (popc (s &&& dec))) ∧ (p3 = 2 → r = nI (tch WL s)) ∧ (¬ p3 = 0 → ¬ p3 = 1 → ¬ p3 = 2 → r = -1))) → wp_X5_move p1 p2 p3 (nI N) (nI dy) (nI dec) Mdo Mk Mkn Mti Mrl Mrr Mw Mwl Mws Mf Mpa Mne (fun (r2 : Int32) (Mw_n : Nat → Int32) (Mwl_n : Nat → Int32) (Mws_n : Nat → Int32) (Mf_n : Int32) (Mpa_n : Nat → Int32) (Mne_n : Nat → Int32) => r = r2 ∧ Inv Pd Pm (nI N) (nI G) (nI J) Bt' Bi' Bf' 1 Rt Rl Rr Ra Wt Wa Wk (nI dec) Wn (nI dy) Wb Hv (nI N) Mv Mb (nI dy) (nI dec) Mdo Mk Mm Mta Mkn Mti Mrl Mrr Mt Mn Mw_n Mwl_n Mws_n Mf_n Mpa_n Mne_n) := by
      intro o r eo hr
      have hIo : mvI dec o := by
        rw [eo]
        have hall : ∀ n, n ≤ 2 ^ N → mvI dec (gfold (mvs p1 p2 (tch WL) (hS (hon rt rl rw)) dec (layN N G J (bsF (knB Wk (nI dy)) 9))) n none) := by
          intro n
          induction n with
          | zero => intro _ s h; cases h
          | succ n ih => intro hn; exact mvs_I (by omega) (ih (by omega))
        exact hall _ (Nat.le_refl _)
      obtain ⟨hr0, hr1⟩ := hr hIo
      unfold wp_X5_move
      refine gi_f c1 ?_
      refine gi_f c2 ?_
      have rbad : ¬ p3 = 0 → ¬ p3 = 1 → ¬ p3 = 2 → r = -1 := by
        intro a b c
        cases o with
        | none => exact hr0 rfl
        | some s => exact (hr1 s rfl).2.2.2 a b c
      rcases pk_ix p3 (n := 3) (by decide) with c | c | ⟨k, hk, rfl⟩
      · refine isIn_f (Or.inl c) ?_
        refine gi_t rfl ⟨rbad ?_ ?_ ?_, fin _ _ _ _ _ _⟩ <;> intro e <;> rw [e] at c <;> exact absurd c (by decide)
      · refine isIn_f (Or.inr (lt_of_S (b := 2) (by decide) c)) ?_
        refine gi_t rfl ⟨rbad ?_ ?_ ?_, fin _ _ _ _ _ _⟩ <;> intro e <;> rw [e] at c <;> exact absurd c (by decide)
      · refine isIn_t (a := 0) (b := 2) (Nat.zero_le k) (by omega) (by decide) ?_
        refine gi_f (by decide) ?_
        refine hfin hN9 hG hdS hMdo hGJ hMk (fun h => absurd h (by omega)) (fun _ a b c d e g hMO => ?_)
        refine gi_f (by decide) ?_
        refine mmove_sp hN9 (by omega) hMO hws hMk w14 w15 hR (fun o2 eo2 _ => ?_)
        rw [← eo] at eo2
        subst eo2
        cases o2 with
        | none => exact gi_t rfl ⟨hr0 rfl, fin _ _ _ _ _ _⟩
        | some s =>
          obtain ⟨r0, r1, r2, -⟩ := hr1 s rfl
          have hs9 := (hIo s rfl).1
          refine gi_f (nI_m1 (by omega)) ?_
          rcases (show k = 0 ∨ k = 1 ∨ k = 2 by omega) with rfl | rfl | rfl
          · exact gi_t rfl ⟨r0 rfl, fin _ _ _ _ _ _⟩
          · refine gi_f (by decide) ?_
            refine gi_t rfl ?_
            refine sp_bits (by omega) ?_
            exact ⟨r1 rfl, fin _ _ _ _ _ _⟩
          · refine gi_f (by decide) ?_
            refine gi_f (by decide) ?_
            exact ⟨r2 rfl, fin _ _ _ _ _ _⟩
    rw [← mvs_all hN9]
    generalize ho : gfold (mvs p1 p2 (tch WL) (hS (hon rt rl rw)) dec (layN N G J (bsF (knB Wk (nI dy)) 9))) (2 ^ N) none = o at mod ⊢
    have mod2 := fun r => mod o r rfl
    clear mod
    cases o with
    | none => exact gi_t rfl (mod2 _ (fun _ => ⟨fun _ => rfl, fun s h => by cases h⟩))
    | some s =>
      have nn : ∀ r : Int32, ((some s : Option Nat) = none → r = -1) := fun r h => by cases h
      -- the set lies below 512
      have hIo : mvI dec (some s) := by
        rw [← ho]
        have hall : ∀ n, n ≤ 2 ^ N → mvI dec (gfold (mvs p1 p2 (tch WL) (hS (hon rt rl rw)) dec (layN N G J (bsF (knB Wk (nI dy)) 9))) n none) := by
          intro n
          induction n with
          | zero => intro _ s h; cases h
          | succ n ih => intro hn; exact mvs_I (by omega) (ih (by omega))
        exact hall _ (Nat.le_refl _)
      obtain ⟨hs9, hpc⟩ := hIo s rfl
      refine gi_f (nI_m1 (by omega)) ?_
      refine gi_c (fun e => ?_) (fun e0 => gi_c (fun e => ?_) (fun e1 => gi_c (fun e => ?_) (fun e2 => ?_)))
      · refine mod2 _ (fun _ => ⟨nn _, fun s2 h => ?_⟩)
        have es : s = s2 := by injection h
        subst es
        exact ⟨fun _ => rfl, fun h => by rw [e] at h; exact absurd h (by decide), fun h => by rw [e] at h; exact absurd h (by decide), fun h => absurd e h⟩
      · refine gi_dec ?_
        rw [show oI (some s) &&& (nI dec ^^^ (-1)) = nI (s &&& cmp9 dec) from nI_wo hs9 (by omega)]
        refine sp_bc (lt512_and hs9) ?_
        refine mod2 _ (fun _ => ⟨nn _, fun s2 h => ?_⟩)
        have es : s = s2 := by injection h
        subst es
        refine ⟨fun h => absurd h e0, fun _ => ?_, fun h => by rw [e] at h; exact absurd h (by decide), fun _ h => absurd e h⟩
        have hsp := popc_split (D := dec) hs9
        rw [pk_sub (by omega)]
        congr 1
        omega
      · refine ct_sp hsm hBK hs9 ?_
        refine mod2 _ (fun _ => ⟨nn _, fun s2 h => ?_⟩)
        have es : s = s2 := by injection h
        subst es
        exact ⟨fun h => absurd h e0, fun h => absurd h e1, fun _ => rfl, fun _ _ h => absurd e h⟩
      · refine mod2 _ (fun _ => ⟨nn _, fun s2 h => ?_⟩)
        exact ⟨fun h => absurd h e0, fun h => absurd h e1, fun h => absurd h e2, fun _ _ _ => rfl⟩
