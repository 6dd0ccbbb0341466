/-! cover -/
def oI : Option Nat → Int32
  | none => -1
  | some s => nI s
def cvs (T P H : Nat → Nat) (len Ly S : Nat) (o : Option Nat) : Option Nat :=
  if S &&& cmp9 Ly = 0 ∧ len ≤ T S then (match o with
    | none => some S
    | some B => if P S < P B ∨ (P S = P B ∧ H S < H B) then some S else some B) else o
theorem cvs_bst {p1 p2 : Int32} {T P H : Nat → Nat} {len Ly : Nat} (hT : ∀ S, T S ≤ len) (hp1 : ∀ S, ¬ p1 < nI (P S)) (hp2 : ∀ S, ¬ p2 < nI (H S)) (hT0 : T 0 = 0) : ∀ m, gfold (cvs T P H len Ly) (m + 1) none = if T (gfold (bst p1 p2 T P H Ly) m 0) = len then some (gfold (bst p1 p2 T P H Ly) m 0) else none
  | 0 => by
    show cvs T P H len Ly 0 none = if T 0 = len then some 0 else none
    unfold cvs
    rw [Nat.zero_and, hT0]
    rcases Nat.decEq 0 len with q | q
    · rw [if_neg (fun c => q (by omega)), if_neg q]
    · rw [if_pos ⟨rfl, by omega⟩, if_pos q]
  | m + 1 => by
    have ih := cvs_bst (Ly := Ly) hT hp1 hp2 hT0 m
    rw [gfold, ih, gfold]
    have hTb := hT (gfold (bst p1 p2 T P H Ly) m 0)
    have hTm := hT (m + 1)
    generalize gfold (bst p1 p2 T P H Ly) m 0 = B at hTb
    unfold cvs bst ftB
    rw [decide_eq_true (hp1 (m + 1)), decide_eq_true (hp2 (m + 1)), Bool.and_self, Bool.and_true]
    rcases Nat.decEq ((m + 1) &&& cmp9 Ly) 0 with q | q
    · rw [decide_eq_false q, if_neg (fun c => q c.1)]
      rfl
    · rw [decide_eq_true q, Bool.true_and]
      unfold btr
      rcases Nat.lt_or_ge (T (m + 1)) len with r | r
      · rw [if_neg (fun c => by omega)]
        rcases Nat.decEq (T B) len with u | u
        · rw [if_neg u]
          cases decide (T B < T (m + 1)) || (decide (T (m + 1) = T B) && (decide (P (m + 1) < P B) || (decide (P (m + 1) = P B) && decide (H (m + 1) < H B))))
          · show none = if T B = len then some B else none
            rw [if_neg u]
          · show none = if T (m + 1) = len then some (m + 1) else none
            rw [if_neg (by omega)]
        · rw [if_pos u, decide_eq_false (show ¬ T B < T (m + 1) by omega), decide_eq_false (show ¬ T (m + 1) = T B by omega)]
          show some B = if T B = len then some B else none
          rw [if_pos u]
      · have e : T (m + 1) = len := by omega
        rw [if_pos ⟨q, r⟩]
        rcases Nat.decEq (T B) len with u | u
        · rw [if_neg u, decide_eq_true (show T B < T (m + 1) by omega)]
          show some (m + 1) = if T (m + 1) = len then some (m + 1) else none
          rw [if_pos e]
        · rw [if_pos u, decide_eq_false (show ¬ T B < T (m + 1) by omega), decide_eq_true (show T (m + 1) = T B by omega), Bool.false_or, Bool.true_and]
          show (if P (m + 1) < P B ∨ (P (m + 1) = P B ∧ H (m + 1) < H B) then some (m + 1) else some B) = _
          rcases Decidable.em (P (m + 1) < P B ∨ (P (m + 1) = P B ∧ H (m + 1) < H B)) with v | v
          · have e2 : (decide (P (m + 1) < P B) || (decide (P (m + 1) = P B) && decide (H (m + 1) < H B))) = true := by simpa using v
            rw [if_pos v, e2]
            show some (m + 1) = if T (m + 1) = len then some (m + 1) else none
            rw [if_pos e]
          · have e2 : (decide (P (m + 1) < P B) || (decide (P (m + 1) = P B) && decide (H (m + 1) < H B))) = false := by
              cases hb : (decide (P (m + 1) < P B) || (decide (P (m + 1) = P B) && decide (H (m + 1) < H B)))
              · rfl
              · exact absurd (by simpa using hb) v
            rw [if_neg v, e2]
            show some B = if T B = len then some B else none
            rw [if_pos u]
theorem tch_0 (WL : List (List Nat)) : tch WL 0 = 0 := by
  induction WL with
  | nil => rfl
  | cons a l ih =>
    show (if decide (wset a &&& 0 ≠ 0) then 1 else 0) + tch l 0 = 0
    rw [ih, Nat.and_zero]
    rfl
theorem mcover_sp {N G J dy : Nat} {rt rl : Nat → Nat} {rw : Nat → Nat → Nat} {Rt Rl Rr Ra Mti Mrl Mrr : Nat → Int32} {WL : List (List Nat)} {Mw Mwl Mws : Nat → Int32} {Mpa Mne : Nat → Int32} {Mk Mkn Wk : Nat → Int32} (hN : N ≤ 9) (hM : MOK WL Mw Mwl Mws (nI WL.length)) (hws : ∀ w ∈ WL, wset w < 512) (hMk : ∀ p, p < 9 → Mk p = nI (kd G J p)) (w14 : ∀ p, p < N → Wk p = Mkn p) (w15 : ∀ p, N ≤ p → p < 9 → Wk p = 0) (hR : I_rounds N rt rl rw Rt Rl Rr Ra Mti Mrl Mrr) {post : Int32 → (Nat → Int32) → (Nat → Int32) → (Nat → Int32) → Int32 → (Nat → Int32) → (Nat → Int32) → Prop} (hX : post (oI (gfold (cvs (tch WL) popc (hS (hon rt rl rw)) WL.length (layN N G J (bsF (knB Wk (nI dy)) 9))) (2 ^ N) none)) Mw Mwl Mws (nI WL.length) Mpa Mne) : ∃ k13, wl_X5_cover_13 (nI N) (nI dy) Mk Mkn Mti Mrl Mrr Mw Mwl Mws (nI WL.length) Mpa Mne post k13 (-1) 0 := by
  have h512 := pow2N hN
  have hH : ∀ S, hS (hon rt rl rw) S ≤ 4752 := fun S => by rw [hon_eq (rw9 hN hR)]; exact mS_le S hR.2.1
  have hone : (1 : Int32) <<< (nI N &&& 31) = nI (2 ^ N) := pb_one N (by omega)
  have hfr : ∀ S, S < 2 ^ N → freeB N S G J (knB Mkn (nI dy)) = decide (S &&& cmp9 (layN N G J (bsF (knB Wk (nI dy)) 9)) = 0) := fun S hS => free_iff hN hS w14 w15
  have eh : ∀ S, mS rt rl rw S = hS (hon rt rl rw) S := fun S => (hon_eq (rw9 hN hR)).symm
  have hlen := hM.2.1
  generalize layN N G J (bsF (knB Wk (nI dy)) 9) = Ly at hfr hX
  refine gl_for (Post := fun (o : Option Nat) => post (oI o) Mw Mwl Mws (nI WL.length) Mpa Mne) (fun n i (o : Option Nat) => wl_X5_cover_13 (nI N) (nI dy) Mk Mkn Mti Mrl Mrr Mw Mwl Mws (nI WL.length) Mpa Mne post n (oI o) (nI i)) (2 ^ N) (cvs (tch WL) popc (hS (hon rt rl rw)) WL.length Ly) (fun i o => ∀ s, o = some s → s < 512) none (fun s h => by cases h) ?_ ?_ ?_ hX
  · intro i o hi ho s hs
    unfold cvs at hs
    rcases Decidable.em (i &&& cmp9 Ly = 0 ∧ WL.length ≤ tch WL i) with c | c
    · rw [if_pos c] at hs
      cases o with
      | none =>
        have e : i = s := by injection hs
        omega
      | some B =>
        have hB := ho B rfl
        have hs2 : (if popc i < popc B ∨ (popc i = popc B ∧ hS (hon rt rl rw) i < hS (hon rt rl rw) B) then some i else some B) = some s := hs
        rcases Decidable.em (popc i < popc B ∨ (popc i = popc B ∧ hS (hon rt rl rw) i < hS (hon rt rl rw) B)) with d | d
        · rw [if_pos d] at hs2
          have e : i = s := by injection hs2
          omega
        · rw [if_neg d] at hs2
          have e : B = s := by injection hs2
          omega
    · rw [if_neg c] at hs
      exact ho s hs
  · intro n i o hi ho hn
    have hi9 : i < 512 := by omega
    have t1 := tch_le WL i
    have q1 := popc_le i
    have h1 := hH i
    unfold wl_X5_cover_13
    rw [hone]
    refine gi_f (nI_ge hi (by omega)) ?_
    unfold cvs at hn
    refine sp_isFree hN hi9 hMk ?_
    rw [hfr i hi]
    refine gi_b (fun e => ?_) (fun e => ?_)
    · rw [if_neg (fun c => absurd c.1 (of_decide_eq_false e))] at hn
      exact gi_r (nI_1 i) hn
    · have ez : i &&& cmp9 Ly = 0 := of_decide_eq_true e
      refine mt_sp hM hws hi9 ?_
      rcases Nat.lt_or_ge (tch WL i) WL.length with r | r
      · rw [if_neg (fun c => by omega)] at hn
        exact gi_f (nI_ge r (by omega)) (gi_r (nI_1 i) hn)
      · rw [if_pos ⟨ez, r⟩] at hn
        refine gi_t (nI_le r (by omega)) ?_
        cases o with
        | none => exact gi_t rfl (gi_r (nI_1 i) hn)
        | some B =>
          have hB9 := ho B rfl
          have q2 := popc_le B
          have h2 := hH B
          refine gi_f (nI_m1 (by omega)) ?_
          have hn2 : wl_X5_cover_13 (nI N) (nI dy) Mk Mkn Mti Mrl Mrr Mw Mwl Mws (nI WL.length) Mpa Mne post n (oI (if popc i < popc B ∨ (popc i = popc B ∧ hS (hon rt rl rw) i < hS (hon rt rl rw) B) then some i else some B)) (nI (i + 1)) := hn
          refine sp_bits hi9 ?_
          refine sp_bits hB9 ?_
          rcases Nat.lt_trichotomy (popc i) (popc B) with u | u | u
          · rw [if_pos (Or.inl u)] at hn2
            exact gi_t (nI_lt u (by omega)) (gi_r (nI_1 i) hn2)
          · refine gi_f (nI_nlt (by omega) (by omega)) ?_
            refine sp_bits hi9 ?_
            refine sp_bits hB9 ?_
            refine gi_t (by rw [u]) ?_
            refine sp_honestOf hN hi9 hR ?_
            refine sp_honestOf hN hB9 hR ?_
            rw [eh, eh]
            rcases Nat.lt_or_ge (hS (hon rt rl rw) i) (hS (hon rt rl rw) B) with v | v
            · rw [if_pos (Or.inr ⟨u, v⟩)] at hn2
              exact gi_f (nI_ge v (by omega)) (gi_r (nI_1 i) hn2)
            · rw [if_neg (fun c => by omega)] at hn2
              exact gi_t (nI_le v (by omega)) (gi_r (nI_1 i) hn2)
          · rw [if_neg (fun c => by omega)] at hn2
            refine gi_f (nI_nlt (by omega) (by omega)) ?_
            refine sp_bits hi9 ?_
            refine sp_bits hB9 ?_
            exact gi_f (fun c => absurd ((nI_eq (by omega) (by omega)).mp c) (by omega)) (gi_r (nI_1 i) hn2)
  · intro n o _ hp
    unfold wl_X5_cover_13
    rw [hone]
    exact gi_t (nI_le (Nat.le_refl _) (by omega)) hp
theorem st_cover : Step_cover Inv := by
  intro Pd Pm Ps Pg Pj Bt Bi Bf Br Rt Rl Rr Ra Wt Wa Wk Wd Wn We Wb Hv Mp Mv Mb Me Md Mdo Mk Mm Mta Mkn Mti Mrl Mrr Mt Mn Mw Mwl Mws Mf Mpa Mne hI
  obtain ⟨N, dS, G, J, dec, tn, vis, dy, mk, rt, rl, rw, hP, hM, hW, hR, hB⟩ := hI
  obtain ⟨⟨hN2, hN9⟩, hPs, hMp, hPd, hdS, hdN, hMdo, hG, hJ, hGJ, hPg, hPj, hMk⟩ := id hP
  obtain ⟨w1, w2, w3, w4, w5, w6, w7, w8, w9, w10, w11, w12, w13, w14, w15⟩ := id hW
  subst hPs hMp hPg hPj w10 w11
  have h512 := pow2N hN9
  refine book_sp hN9 hPd hdS hG (by omega) hB (fun Bt' Bi' Bf' hBK => ?_)
  have fin : ∀ a b c d e g, Inv Pd Pm (nI N) (nI G) (nI J) Bt' Bi' Bf' 1 Rt Rl Rr Ra Wt Wa Wk Wd Wn (nI dy) Wb Hv (nI N) Mv Mb (nI dy) Md Mdo Mk Mm Mta Mkn Mti Mrl Mrr Mt Mn a b c d e g := fun a b c d e g => ⟨N, dS, G, J, dec, tn, vis, dy, mk, rt, rl, rw, hP, hM, hW, hR, Or.inr ⟨rfl, hBK⟩⟩
  have hws := ways_ws dS G J
  have hfin := @finds_sp N dS G J Mdo Mk
  generalize ways dS G J = WL at hBK fin hws hfin
  rcases Nat.lt_or_ge 2000 WL.length with hbig | hsm
  · refine count_out hbig hBK ?_
    refine gi_t rfl ?_
    refine hfin hN9 hG hdS hMdo hGJ hMk (fun _ a b c d e g => ?_) (fun h => absurd h (by omega))
    exact gi_t rfl ⟨rfl, fin _ _ _ _ _ _⟩
  · refine count_in hsm hBK ?_
    refine gi_f (nI_m1 (by omega)) ?_
    have hH := hB30 hN9 hR
    have hH4 : ∀ S, hS (hon rt rl rw) S ≤ 4752 := fun S => by rw [hon_eq (rw9 hN9 hR)]; exact mS_le S hR.2.1
    refine findBest_sp hN9 (by omega) (by omega) hsm hBK hR.2.2.2 hH ?_
    have hs := bst_lt (p1 := 9) (p2 := 4752) (T := tch WL) (P := popc) (H := hS (hon rt rl rw)) (Ly := layN N G J (bsF (knB Wk (nI dy)) 9)) (layN N G J (bsF (knB Wk (nI dy)) 9)) (by have := lay_lt G J (bsF (knB Wk (nI dy)) 9) hN9; omega)
    have hcv := cvs_bst (p1 := 9) (p2 := 4752) (T := tch WL) (P := popc) (H := hS (hon rt rl rw)) (len := WL.length) (Ly := layN N G J (bsF (knB Wk (nI dy)) 9)) (tch_le WL) (fun S => by have := popc_le S; exact nI_nlt (a := 9) (by omega) (by decide)) (fun S => by have := hH4 S; exact nI_nlt (a := 4752) (by omega) (by decide)) (tch_0 WL) (2 ^ N - 1)
    rw [show 2 ^ N - 1 + 1 = 2 ^ N from by have : 0 < 2 ^ N := Nat.pow_pos (by decide); omega, bst_all hN9] at hcv
    refine ct_sp hsm hBK hs ?_
    have mod : ∀ r : Int32, r = oI (gfold (cvs (tch WL) popc (hS (hon rt rl rw)) WL.length (layN N G J (bsF (knB Wk (nI dy)) 9))) (2 ^ N) none) → wp_X5_cover (nI N) (nI dy) Mdo Mk Mkn Mti Mrl Mrr Mw Mwl Mws Mf Mpa Mne (fun (r2 : Int32) (Mw_n : Nat → Int32) (Mwl_n : Nat → Int32) (Mws_n : Nat → Int32) (Mf_n : Int32) (Mpa_n : Nat → Int32) (Mne_n : Nat → Int32) => r = r2 ∧ Inv Pd Pm (nI N) (nI G) (nI J) Bt' Bi' Bf' 1 Rt Rl Rr Ra Wt Wa Wk Wd Wn (nI dy) Wb Hv (nI N) Mv Mb (nI dy) Md Mdo Mk Mm Mta Mkn Mti Mrl Mrr Mt Mn Mw_n Mwl_n Mws_n Mf_n Mpa_n Mne_n) := by
      intro r hr
      refine hfin hN9 hG hdS hMdo hGJ hMk (fun h => absurd h (by omega)) (fun _ a b c d e g hMO => ?_)
      refine gi_f (by decide) ?_
      have hMf := hMO.1
      subst hMf
      exact mcover_sp hN9 hMO hws hMk w14 w15 hR ⟨hr, fin _ _ _ _ _ _⟩
    have ht := tch_le WL (gfold (bst 9 4752 (tch WL) popc (hS (hon rt rl rw)) (layN N G J (bsF (knB Wk (nI dy)) 9))) (layN N G J (bsF (knB Wk (nI dy)) 9)) 0)
    rw [hcv] at mod
    generalize gfold (bst 9 4752 (tch WL) popc (hS (hon rt rl rw)) (layN N G J (bsF (knB Wk (nI dy)) 9))) (layN N G J (bsF (knB Wk (nI dy)) 9)) 0 = s at hs mod ht ⊢
    refine gi_c (fun c => mod _ ?_) (fun c => mod _ ?_)
    · rw [if_pos ((nI_eq (by omega) (by omega)).mp c)]
      rfl
    · rw [if_neg (fun e => c (by rw [e]))]
      rfl
