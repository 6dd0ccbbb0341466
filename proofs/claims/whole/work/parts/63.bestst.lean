theorem isIn_any {x lo hi : Int32} {post : Int32 → Prop} (h0 : post 0) (h1 : post 1) : wp_X5_isIn x lo hi post := gi_c (fun _ => h0) (fun _ => gi_c (fun _ => h0) (fun _ => h1))
theorem hB30 {N : Nat} {rt rl : Nat → Nat} {rw : Nat → Nat → Nat} {Rt Rl Rr Ra Mti Mrl Mrr : Nat → Int32} (hN : N ≤ 9) (hR : I_rounds N rt rl rw Rt Rl Rr Ra Mti Mrl Mrr) : ∀ S, hS (hon rt rl rw) S < 2 ^ 30 := fun S => by
  rw [hon_eq (rw9 hN hR)]
  have := mS_le (rw := rw) S hR.2.1
  omega
theorem st_best : Step_best Inv := by
  intro Pd Pm Ps Pg Pj Bt Bi Bf Br Rt Rl Rr Ra Wt Wa Wk Wd Wn We Wb Hv Mp Mv Mb Me Md Mdo Mk Mm Mta Mkn Mti Mrl Mrr Mt Mn Mw Mwl Mws Mf Mpa Mne hI p1 p2 p3
  have hI0 := hI
  obtain ⟨N, dS, G, J, dec, tn, vis, dy, mk, rt, rl, rw, hP, hM, hW, hR, hB⟩ := hI
  obtain ⟨⟨hN2, hN9⟩, hPs, hMp, hPd, hdS, hdN, hMdo, hG, hJ, hGJ, hPg, hPj, hMk⟩ := id hP
  obtain ⟨w1, w2, w3, w4, w5, w6, w7, w8, w9, w10, w11, w12, w13, w14, w15⟩ := id hW
  subst hPs hMp hPg hPj w10 w11
  have h512 := pow2N hN9
  unfold wp_X4_best
  refine gi_c (fun c => isIn_f (Or.inl c) (gi_t rfl ⟨rfl, hI0⟩)) (fun c1 => gi_c (fun c => isIn_f (Or.inr c) (gi_t rfl ⟨rfl, hI0⟩)) (fun c2 => ?_))
  have a1 : ∀ {post : Int32 → Prop}, post 1 → wp_X5_isIn p1 0 9 post := fun h => gi_f c1 (gi_f c2 h)
  refine gi_c (fun c => a1 (gi_f (by decide) (gi_t c ⟨rfl, hI0⟩))) (fun c3 => ?_)
  refine book_sp hN9 hPd hdS hG (by omega) hB (fun Bt' Bi' Bf' hBK => ?_)
  have fin : ∀ a b c d e g, Inv Pd Pm (nI N) (nI G) (nI J) Bt' Bi' Bf' 1 Rt Rl Rr Ra Wt Wa Wk Wd Wn (nI dy) Wb Hv (nI N) Mv Mb (nI dy) Md Mdo Mk Mm Mta Mkn Mti Mrl Mrr Mt Mn a b c d e g := fun a b c d e g => ⟨N, dS, G, J, dec, tn, vis, dy, mk, rt, rl, rw, hP, hM, hW, hR, Or.inr ⟨rfl, hBK⟩⟩
  have hws := ways_ws dS G J
  have hfin := @finds_sp N dS G J Mdo Mk
  generalize ways dS G J = WL at hBK fin hws hfin
  -- the reference, told nothing
  rcases Nat.lt_or_ge 2000 WL.length with hbig | hsm
  · refine count_out hbig hBK ?_
    refine gi_t rfl ?_
    refine a1 ?_
    refine gi_f (by decide) ?_
    refine gi_f c3 ?_
    refine isIn_any ?_ ?_
    · exact gi_t rfl ⟨rfl, fin _ _ _ _ _ _⟩
    · refine gi_f (by decide) ?_
      refine hfin hN9 hG hdS hMdo hGJ hMk (fun _ a b c d e g => ?_) (fun h => absurd h (by omega))
      exact gi_t rfl ⟨rfl, fin _ _ _ _ _ _⟩
  · refine count_in hsm hBK ?_
    refine gi_f (nI_m1 (by omega)) ?_
    refine findBest_sp hN9 (by omega) (by omega) hsm hBK hR.2.2.2 (hB30 hN9 hR) ?_
    have hs := bst_lt (p1 := p1) (p2 := p2) (T := tch WL) (P := popc) (H := hS (hon rt rl rw)) (Ly := layN N G J (bsF (knB Wk (nI dy)) 9)) (layN N G J (bsF (knB Wk (nI dy)) 9)) (by have := lay_lt G J (bsF (knB Wk (nI dy)) 9) hN9; omega)
    have mod : ∀ r : Int32, (p3 = 0 → r = nI (tch WL (gfold (bst p1 p2 (tch WL) popc (hS (hon rt rl rw)) (layN N G J (bsF (knB Wk (nI dy)) 9))) (layN N G J (bsF (knB Wk (nI dy)) 9)) 0))) → (p3 = 1 → r = nI (gfold (bst p1 p2 (tch WL) popc (hS (hon rt rl rw)) (layN N G J (bsF (knB Wk (nI dy)) 9))) (layN N G J (bsF (knB Wk (nI dy)) 9)) 0)) → (p3 = 2 → r = nI (hS (hon rt rl rw) (gfold (bst p1 p2 (tch WL) popc (hS (hon rt rl rw)) (layN N G J (bsF (knB Wk (nI dy)) 9))) (layN N G J (bsF (knB Wk (nI dy)) 9)) 0))) → (¬ p3 = 0 → ¬ p3 = 1 → ¬ p3 = 2 → r = -1) → wp_X5_best p1 p2 p3 (nI N) (nI dy) Mdo Mk Mkn Mti Mrl Mrr Mw Mwl Mws Mf Mpa Mne (fun (r2 : Int32) (Mw_n : Nat → Int32) (Mwl_n : Nat → Int32) (Mws_n : Nat → Int32) (Mf_n : Int32) (Mpa_n : Nat → Int32) (Mne_n : Nat → Int32) => r = r2 ∧ Inv Pd Pm (nI N) (nI G) (nI J) Bt' Bi' Bf' 1 Rt Rl Rr Ra Wt Wa Wk Wd Wn (nI dy) Wb Hv (nI N) Mv Mb (nI dy) Md Mdo Mk Mm Mta Mkn Mti Mrl Mrr Mt Mn Mw_n Mwl_n Mws_n Mf_n Mpa_n Mne_n) := by
      intro r h0 h1 h2 h3
      unfold wp_X5_best
      refine a1 ?_
      refine gi_f (by decide) ?_
      refine gi_f c3 ?_
      rcases pk_ix p3 (n := 3) (by decide) with c | c | ⟨k, hk, rfl⟩
      · refine isIn_f (Or.inl c) ?_
        refine gi_t rfl ⟨h3 ?_ ?_ ?_, fin _ _ _ _ _ _⟩ <;> intro e <;> rw [e] at c <;> exact absurd c (by decide)
      · refine isIn_f (Or.inr (lt_of_S (b := 2) (by decide) c)) ?_
        refine gi_t rfl ⟨h3 ?_ ?_ ?_, fin _ _ _ _ _ _⟩ <;> intro e <;> rw [e] at c <;> exact absurd c (by decide)
      · refine isIn_t (a := 0) (b := 2) (Nat.zero_le k) (by omega) (by decide) ?_
        refine gi_f (by decide) ?_
        refine hfin hN9 hG hdS hMdo hGJ hMk (fun h => absurd h (by omega)) (fun _ a b c d e g hMO => ?_)
        refine gi_f (by decide) ?_
        refine mbest_sp hN9 hMO hws hMk w14 w15 hR (fun s es => ?_)
        rw [← es] at h0 h1 h2 hs
        rcases (show k = 0 ∨ k = 1 ∨ k = 2 by omega) with rfl | rfl | rfl
        · exact gi_t rfl ⟨h0 rfl, fin _ _ _ _ _ _⟩
        · refine gi_f (by decide) ?_
          exact gi_t rfl ⟨h1 rfl, fin _ _ _ _ _ _⟩
        · refine gi_f (by decide) ?_
          refine gi_f (by decide) ?_
          refine sp_honestOf hN9 hs hR ?_
          rw [← hon_eq (rw9 hN9 hR)]
          exact ⟨h2 rfl, fin _ _ _ _ _ _⟩
    generalize gfold (bst p1 p2 (tch WL) popc (hS (hon rt rl rw)) (layN N G J (bsF (knB Wk (nI dy)) 9))) (layN N G J (bsF (knB Wk (nI dy)) 9)) 0 = s at hs mod ⊢
    refine gi_c (fun e => ?_) (fun e0 => gi_c (fun e => ?_) (fun e1 => gi_c (fun e => ?_) (fun e2 => ?_)))
    · refine ct_sp hsm hBK hs ?_
      exact mod _ (fun _ => rfl) (fun e2 => by rw [e] at e2; exact absurd e2 (by decide)) (fun e2 => by rw [e] at e2; exact absurd e2 (by decide)) (fun h => absurd e h)
    · exact mod _ (fun e2 => absurd e2 e0) (fun _ => rfl) (fun e2 => by rw [e] at e2; exact absurd e2 (by decide)) (fun _ h => absurd e h)
    · refine sp_touches hs hR.2.2.2 ?_
      exact mod _ (fun e2 => absurd e2 e0) (fun e2 => absurd e2 e1) (fun _ => rfl) (fun _ _ h => absurd e h)
    · exact mod _ (fun e => absurd e e0) (fun e => absurd e e1) (fun e => absurd e e2) (fun _ _ _ => rfl)
