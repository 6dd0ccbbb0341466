/-! look -/
theorem gs_split (f : Nat → Nat) (m : Nat) : ∀ n, gs f (m + n) = gs f m + gs (fun k => f (m + k)) n
  | 0 => rfl
  | n + 1 => by rw [← Nat.add_assoc, gs, gs_split f m n, gs, Nat.add_assoc]
theorem gs_blk (f : Nat → Nat) : ∀ n, gs f (n * 9) = gs (fun a => gs (fun b => f (9 * a + b)) 9) n
  | 0 => by
    rw [Nat.zero_mul]
    rfl
  | n + 1 => by
    have e : gs (fun k => f (n * 9 + k)) 9 = gs (fun b => f (9 * n + b)) 9 := gs_cong (fun b _ => by rw [Nat.mul_comm])
    rw [Nat.succ_mul, gs_split, gs_blk f n, e]
    rfl
theorem count_sp {dS : Nat → Nat} {Pd : Nat → Int32} (hPd : ∀ a, a < 9 → Pd a = nI (dS a)) (hd : ∀ a, dS a < 512) {post : Int32 → Prop} (h : post (nI (gs (fun a => popc (dS a)) 9))) : wp_X0_countDoors Pd post := by
  refine gl_for0 (Post := fun s => post (nI s)) (fun n i (s : Nat) => wl_X0_countDoors_13 Pd post n (nI s) (nI i)) 9 (fun i s => s + popc (dS i)) 0 ?_ (fun n s hp => gi_t (by decide) hp) ?_
  · intro n i s hi hn
    refine gi_f (nI_ge (b := 9) hi (by decide)) ⟨vp_in_nI hi (by decide), ?_⟩
    rw [cl9 (by omega), hPd i hi]
    refine gi_n ?_
    refine sp_bc (hd i) ?_
    exact gi_r (nI_add _ _) (gi_r (nI_1 i) hn)
  · rw [gf_gs, Nat.zero_add]
    exact h
theorem mcount_sp {dS : Nat → Nat} {Mdo : Nat → Int32} (hM : ∀ a b, a < 9 → b < 9 → Mdo (9 * a + b) = if (dS a).testBit b then 1 else 0) {post : Int32 → Prop} (h : post (nI (gs (fun a => popc (dS a)) 9))) : ∃ k55, wl_X5_look_55 Mdo post k55 0 0 := by
  have hM2 : ∀ k, k < 81 → Mdo k = if (dS (k / 9)).testBit (k % 9) then 1 else 0 := by
    intro k hk
    have h1 := hM (k / 9) (k % 9) (by omega) (by omega)
    rw [show 9 * (k / 9) + k % 9 = k from by omega] at h1
    exact h1
  refine gl_for0 (Post := fun s => post (nI s)) (fun n i (s : Nat) => wl_X5_look_55 Mdo post n (nI s) (nI i)) 81 (fun i s => s + (if (dS (i / 9)).testBit (i % 9) then 1 else 0)) 0 ?_ (fun n s hp => gi_t (by decide) hp) ?_
  · intro n i s hi hn
    refine gi_f (nI_ge (b := 81) hi (by decide)) ⟨vp_in_nI hi (by decide), ?_⟩
    rw [cl9 (by omega), hM2 i hi]
    refine gi_b (fun hb => ?_) (fun hb => ?_)
    · rw [hb] at hn
      exact gi_r (nI_add s 0) (gi_r (nI_1 i) hn)
    · rw [hb] at hn
      exact gi_r (nI_1 s) (gi_r (nI_1 i) hn)
  · rw [gf_gs, Nat.zero_add]
    have e : gs (fun i => if (dS (i / 9)).testBit (i % 9) then 1 else 0) 81 = gs (fun a => popc (dS a)) 9 := by
      rw [show (81 : Nat) = 9 * 9 from rfl, gs_blk]
      refine gs_cong (fun a _ => gs_cong (fun b hb => ?_))
      rw [show (9 * a + b) / 9 = a from by omega, show (9 * a + b) % 9 = b from by omega]
    rw [e]
    exact h
theorem mknown_sp {N : Nat} (hN : N ≤ 9) {Me : Int32} {Mkn : Nat → Int32} {post : Int32 → Prop} (h : post (nI (bsF (knB Mkn Me) N))) : ∃ k93, wl_X5_look_93 (nI N) Me Mkn post k93 0 0 := by
  refine gl_for0 (Post := fun s => post (nI s)) (fun n i (s : Nat) => wl_X5_look_93 (nI N) Me Mkn post n (nI s) (nI i)) N (fun i s => if knB Mkn Me i then s ||| 2 ^ i else s) 0 ?_ (fun n s hp => gi_t (nI_le (Nat.le_refl N) (by omega)) hp) h
  intro n i s hi hn
  refine gi_f (nI_ge hi (by omega)) ⟨vp_in_nI (by omega) (by decide), ?_⟩
  rw [cl9 (by omega)]
  refine gi_c (fun c => ?_) (fun c => ?_)
  · have e : knB Mkn Me i = false := decide_eq_false (fun q => q c)
    rw [e] at hn
    refine gi_t rfl (gi_r (e' := nI s) ?_ (gi_r (nI_1 i) hn))
    rw [show (0 : Int32) = nI 0 from rfl, fa_or, Nat.or_zero]
  · have e : knB Mkn Me i = true := decide_eq_true c
    rw [e] at hn
    refine gi_f (by decide) (gi_r (e' := nI (s ||| 2 ^ i)) ?_ (gi_r (nI_1 i) hn))
    rw [pb_one i (by omega), fa_or]
theorem st_look : Step_look Inv := by
  intro Pd Pm Ps Pg Pj Bt Bi Bf Br Rt Rl Rr Ra Wt Wa Wk Wd Wn We Wb Hv Mp Mv Mb Me Md Mdo Mk Mm Mta Mkn Mti Mrl Mrr Mt Mn Mw Mwl Mws Mf Mpa Mne hI p1
  have hI0 := hI
  obtain ⟨N, dS, G, J, dec, tn, vis, dy, mk, rt, rl, rw, hP, hM, hW, hR, hB⟩ := hI
  obtain ⟨⟨hN2, hN9⟩, hPs, hMp, hPd, hdS, hdN, hMdo, hPrest⟩ := hP
  obtain ⟨w1, w2, w3, w4, w5, w6, w7, w8, w9, w10, w11, w12, w13, w14, w15⟩ := hW
  obtain ⟨m1, m2, m3, m4, m5⟩ := hM
  subst hPs hMp w2 w3 w6 w7 w9 w10 w11 m3 m4
  have h512 := pow2N hN9
  have hd : ∀ a, dS a < 512 := fun a => Nat.lt_of_lt_of_le (hdS a) h512
  unfold wp_X4_look
  refine gi_c (fun c => gi_size ?_) (fun c0 => gi_c (fun c => ?_) (fun c1 => gi_c (fun c => gi_dec ?_) (fun c2 => gi_c (fun c => ?_) (fun c3 => gi_c (fun c => gi_today ?_) (fun c4 => gi_c (fun c => gi_tc ?_) (fun c5 => gi_c (fun c => ?_) (fun c6 => gi_c (fun c => gi_bears ?_) (fun c7 => ?_))))))))
  · subst c
    exact gi_t rfl ⟨rfl, hI0⟩
  · subst c
    refine count_sp hPd hd ?_
    unfold wp_X5_look
    refine gi_f (by decide) ?_
    refine gi_t rfl ?_
    exact mcount_sp hMdo ⟨rfl, hI0⟩
  · subst c
    unfold wp_X5_look
    exact gi_f (by decide) (gi_f (by decide) (gi_t rfl ⟨rfl, hI0⟩))
  · subst c
    refine sp_known ?_
    unfold wp_X5_look
    refine gi_f (by decide) (gi_f (by decide) (gi_f (by decide) (gi_t rfl ?_)))
    refine mknown_sp hN9 ⟨?_, hI0⟩
    congr 1
    have hb1 : bsF (knB Mkn (nI dy)) N < 2 ^ N := bs_lt _ N
    refine tb_ext (bs_lt _ 9) (by omega) (fun k hk => ?_)
    rw [tb_bs, tb_bs, decide_eq_true hk, Bool.true_and]
    rcases Nat.lt_or_ge k N with q | q
    · rw [decide_eq_true q, Bool.true_and]
      unfold knB
      rw [w14 k q]
    · rw [decide_eq_false (by omega), Bool.false_and]
      unfold knB
      rw [w15 k q hk]
      exact decide_eq_false (fun h => h (nI_le (a := 0) (Nat.zero_le dy) (by omega)))
  · subst c
    unfold wp_X5_look
    exact gi_f (by decide) (gi_f (by decide) (gi_f (by decide) (gi_f (by decide) (gi_t rfl ⟨rfl, hI0⟩))))
  · subst c
    unfold wp_X5_look
    exact gi_f (by decide) (gi_f (by decide) (gi_f (by decide) (gi_f (by decide) (gi_f (by decide) (gi_t rfl ⟨rfl, hI0⟩)))))
  · subst c
    unfold wp_X5_look
    exact gi_f (by decide) (gi_f (by decide) (gi_f (by decide) (gi_f (by decide) (gi_f (by decide) (gi_f (by decide) (gi_t rfl ⟨rfl, hI0⟩))))))
  · subst c
    unfold wp_X5_look
    exact gi_f (by decide) (gi_f (by decide) (gi_f (by decide) (gi_f (by decide) (gi_f (by decide) (gi_f (by decide) (gi_f (by decide) (gi_t rfl ⟨rfl, hI0⟩)))))))
  · unfold wp_X5_look
    exact gi_f c0 (gi_f c1 (gi_f c2 (gi_f c3 (gi_f c4 (gi_f c5 (gi_f c6 (gi_f c7 ⟨rfl, hI0⟩)))))))
