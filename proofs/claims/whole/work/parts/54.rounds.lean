/-! rounds. bt, b_ext, b_and, b_ushr, b_sshr are pasted from the kit's to-paste texts. -/
def bt (x : Int32) (i : Nat) : Bool := x.toBitVec.getLsbD i
theorem b_ext {x y : Int32} (h : ∀ i, i < 32 → bt x i = bt y i) : x = y := Int32.toBitVec_inj.mp (BitVec.eq_of_getLsbD_eq (fun i hi => h i hi))
theorem b_and (x y : Int32) (i : Nat) : bt (x &&& y) i = (bt x i && bt y i) := by unfold bt; rw [Int32.toBitVec_and, BitVec.getLsbD_and]
theorem b_ushr (n : Nat) (hn : n < 32) (x : Int32) (i : Nat) : bt ((x.toUInt32 >>> ((nI n).toUInt32 &&& Int32.toUInt32 31)).toInt32) i = bt x (n + i) := by
  show (x.toUInt32 >>> ((nI n).toUInt32 &&& Int32.toUInt32 31)).toBitVec.getLsbD i = x.toUInt32.toBitVec.getLsbD (n + i)
  rw [UInt32.toBitVec_shiftRight]
  show (x.toUInt32.toBitVec >>> (((nI n).toUInt32 &&& Int32.toUInt32 31).toBitVec % 32).toNat).getLsbD i = _
  rw [s_u n hn, BitVec.getLsbD_ushiftRight]
theorem b_sshr (n : Nat) (hn : n < 32) (x : Int32) {i : Nat} (hi : i < 32) : bt (x >>> (nI n &&& 31)) i = if n + i < 32 then bt x (n + i) else bt x 31 := by
  unfold bt
  rw [Int32.toBitVec_shiftRight]
  show (x.toBitVec.sshiftRight ((nI n &&& 31).toBitVec.smod 32).toNat).getLsbD i = _
  rw [s_l n hn, BitVec.getLsbD_sshiftRight, BitVec.msb_eq_getLsbD_last]
  simp [hi]
theorem b_15 : ∀ i, i < 32 → bt 15 i = decide (i < 4) := by decide +kernel
theorem mul4 (i : Nat) : (4 : Int32) * nI i = nI (4 * i) := by rw [show (4 : Int32) = nI 4 from rfl, pk_mul]
theorem nib_eq {i : Nat} (hi : i < 8) (row : Int32) : (row >>> ((4 * nI i) &&& 31)) &&& 15 = nibI row i := by
  unfold nibI gq_ushr
  rw [mul4]
  apply b_ext
  intro j hj
  rw [b_and, b_and, b_sshr _ (by omega) _ hj, b_ushr _ (by omega), b_15 j hj]
  rcases Nat.lt_or_ge j 4 with q | q
  · rw [if_pos (by omega)]
  · rw [decide_eq_false (by omega), Bool.and_false, Bool.and_false]
def nb (row : Int32) (i : Nat) : Nat := (nibI row i).toNatClampNeg
theorem nb_eq (row : Int32) (i : Nat) : nibI row i = nI (nb row i) ∧ nb row i < 16 := by
  obtain ⟨j, hj, e⟩ := pk_andE (gq_ushr row (4 * nI i)) (m := 15) 4 (by decide)
  have e2 : nibI row i = nI j := e
  have e3 : nb row i = j := by unfold nb; rw [e2, nI_clamp (by omega)]
  exact ⟨by rw [e3]; exact e2, by rw [e3]; exact hj⟩
theorem gl_inv {σ : Type} {Post : σ → Prop} (L : Nat → Nat → σ → Prop) (B : Nat) (f : Nat → σ → σ) (I : Nat → σ → Prop) (s0 : σ) (hI0 : I 0 s0) (hI : ∀ i s, i < B → I i s → I (i + 1) (f i s)) (hs : ∀ n i s, i < B → I i s → L n (i + 1) (f i s) → L (n + 1) i s) (he : ∀ n s, Post s → L (n + 1) B s) (h : ∀ s, I B s → Post s) : ∃ k, L k 0 s0 := by
  have hIk : ∀ i, i ≤ B → I i (gfold f i s0) := by
    intro i
    induction i with
    | zero => intro _; exact hI0
    | succ i ih => intro hi; exact hI i _ (by omega) (ih (by omega))
  exact gl_for L B f I s0 hI0 hI hs (fun n s _ => he n s) (h _ (hIk B (Nat.le_refl B)))
/-! honest touches -/
def hS (h : Nat → Nat) (S : Nat) : Nat := gs (fun p => if S.testBit p then h p else 0) 9
theorem gf_gs (f : Nat → Nat) (s : Nat) : ∀ n, gfold (fun i (x : Nat) => x + f i) n s = s + gs f n
  | 0 => rfl
  | n + 1 => by rw [gfold, gf_gs f s n, gs, Nat.add_assoc]
theorem sp_touches {S : Nat} {h : Nat → Nat} {Ra : Nat → Int32} (hS9 : S < 512) (hRa : ∀ p, p < 9 → Ra p = nI (h p)) {post : Int32 → Prop} (hp : post (nI (hS h S))) : wp_X1_touchesOf (nI S) Ra post := by
  refine gl_for0 (Post := fun s => post (nI s)) (fun n i (s : Nat) => wl_X1_touchesOf_4 (nI S) Ra post n (nI s) (nI i)) 9 (fun i s => s + (if S.testBit i then h i else 0)) 0 ?_ (fun n s hp => gi_t (by decide) hp) ?_
  · intro n i s hi hn
    refine gi_f (nI_ge (b := 9) hi (by decide)) (sp_has hS9 hi (gi_b (fun hb => gi_r (nI_1 i) ?_) (fun hb => ⟨vp_in_nI hi (by decide), ?_⟩)))
    · rw [hb] at hn; exact hn
    · rw [cl9 (by omega), hRa i hi]
      rw [hb] at hn
      exact gi_r (nI_add _ _) (gi_r (nI_1 i) hn)
  · rw [gf_gs, Nat.zero_add]
    exact hp
def mS (rt rl : Nat → Nat) (rw : Nat → Nat → Nat) (S : Nat) : Nat := gs (fun r => gs (fun i => if S.testBit (rw r i) then rt r else 0) (rl r)) 6
theorem sp_honestOf {N S : Nat} {rt rl : Nat → Nat} {rw : Nat → Nat → Nat} {Rt Rl Rr Ra Mti Mrl Mrr : Nat → Int32} (hN : N ≤ 9) (hS9 : S < 512) (hR : I_rounds N rt rl rw Rt Rl Rr Ra Mti Mrl Mrr) {post : Int32 → Prop} (hp : post (nI (mS rt rl rw S))) : wp_X5_honestOf (nI S) Mti Mrl Mrr post := by
  obtain ⟨h1, h2, h3, -⟩ := hR
  refine gl_for0 (Post := fun s => post (nI s)) (fun n r (s : Nat) => wl_X5_honestOf_4 (nI S) Mti Mrl Mrr post n (nI s) (nI r)) 6 (fun r s => s + gs (fun i => if S.testBit (rw r i) then rt r else 0) (rl r)) 0 ?_ (fun n s hp => gi_t (by decide) hp) ?_
  · intro n r s hr hn
    refine gi_f (nI_ge (b := 6) hr (by decide)) ?_
    obtain ⟨-, e2, -, e4⟩ := h1 r hr
    have hrl := (h2 r).2
    refine gl_for0 (Post := fun s' => gq_nm (nI r + 1) (fun v14 : Int32 => wl_X5_honestOf_4 (nI S) Mti Mrl Mrr post n (nI s') v14)) (fun n i (s : Nat) => wl_X5_honestOf_13 (nI S) Mti Mrl Mrr (nI r) _ n (nI s) (nI i)) (rl r) (fun i s => s + (if S.testBit (rw r i) then rt r else 0)) s ?_ ?_ ?_
    · intro n i s hi hn
      obtain ⟨h4, h5, h6⟩ := h3 r i hr hi
      refine ⟨vp_in_nI hr (by decide), ?_⟩
      rw [cl9 (by omega), e4]
      refine gi_f (nI_ge hi (by omega)) ?_
      rw [show (8 : Int32) * nI r + nI i = nI (8 * r + i) from by rw [show (8 : Int32) = nI 8 from rfl, pk_mul, nI_add]]
      refine ⟨vp_in_nI (by omega) (by decide), ?_⟩
      rw [cl9 (by omega), h6, pb_shr S hS9 _ (by omega), e2]
      refine gi_b1 (fun hb => ⟨vp_in_nI hr (by decide), ?_⟩) (fun hb => ?_)
      · rw [hb] at hn
        exact gi_r (nI_add _ _) (gi_r (nI_1 i) hn)
      · rw [hb] at hn
        exact gi_r (nI_add s 0) (gi_r (nI_1 i) hn)
    · intro n s hp
      refine ⟨vp_in_nI hr (by decide), ?_⟩
      rw [cl9 (by omega), e4]
      exact gi_t (nI_le (Nat.le_refl _) (by omega)) hp
    · rw [gf_gs]
      exact gi_r (nI_1 r) hn
  · rw [gf_gs, Nat.zero_add]
    exact hp
theorem hon_eq {rt rl : Nat → Nat} {rw : Nat → Nat → Nat} {S : Nat} (h : ∀ r, r < 6 → ∀ i, i < rl r → rw r i < 9) : hS (hon rt rl rw) S = mS rt rl rw S := by
  have e1 : hS (hon rt rl rw) S = gs (fun p => gs (fun r => gs (fun i => if rw r i = p then (if S.testBit p then rt r else 0) else 0) (rl r)) 6) 9 := by
    refine gs_cong (fun p _ => ?_)
    show (if S.testBit p then hon rt rl rw p else 0) = _
    cases S.testBit p
    · rw [if_neg (by decide)]
      refine (gs_zero' (fun r _ => gs_zero' (fun i _ => ?_))).symm
      show (if rw r i = p then (if false then rt r else 0) else 0) = 0
      rcases Nat.decEq (rw r i) p with q | q
      · rw [if_neg q]
      · rw [if_pos q]; rfl
    · rfl
  rw [e1, gs_swap]
  refine gs_cong (fun r hr => ?_)
  rw [gs_swap]
  refine gs_cong (fun i hi => ?_)
  have e2 : gs (fun p => if rw r i = p then (if S.testBit p then rt r else 0) else 0) 9 = gs (fun p => if p = rw r i then (if S.testBit (rw r i) then rt r else 0) else 0) 9 := by
    refine gs_cong (fun p _ => ?_)
    rcases Nat.decEq (rw r i) p with q | q
    · rw [if_neg q, if_neg (fun e => q e.symm)]
    · rw [if_pos q, if_pos q.symm, q]
  rw [e2, gs_one _ (h r hr i hi)]
theorem mS_le {rt rl : Nat → Nat} {rw : Nat → Nat → Nat} (S : Nat) (h : ∀ r, rt r ≤ 99 ∧ rl r ≤ 8) : mS rt rl rw S ≤ 4752 := by
  have h1 : mS rt rl rw S ≤ gs (fun _ => 792) 6 := by
    refine gs_le (fun r _ => ?_)
    have h2 : gs (fun i => if S.testBit (rw r i) then rt r else 0) (rl r) ≤ gs (fun _ => 99) (rl r) := by
      refine gs_le (fun i _ => ?_)
      have := (h r).1
      cases S.testBit (rw r i)
      · exact Nat.zero_le _
      · exact this
    rw [gs_const] at h2
    have := (h r).2
    omega
  rw [gs_const] at h1
  omega
theorem rw9 {N : Nat} {rt rl : Nat → Nat} {rw : Nat → Nat → Nat} {Rt Rl Rr Ra Mti Mrl Mrr : Nat → Int32} (hN : N ≤ 9) (hR : I_rounds N rt rl rw Rt Rl Rr Ra Mti Mrl Mrr) : ∀ r, r < 6 → ∀ i, i < rl r → rw r i < 9 := fun r hr i hi => Nat.lt_of_lt_of_le (hR.2.2.1 r i hr hi).1 hN
theorem st_honest : Step_honest Inv := by
  intro Pd Pm Ps Pg Pj Bt Bi Bf Br Rt Rl Rr Ra Wt Wa Wk Wd Wn We Wb Hv Mp Mv Mb Me Md Mdo Mk Mm Mta Mkn Mti Mrl Mrr Mt Mn Mw Mwl Mws Mf Mpa Mne hI p1
  have hI0 := hI
  obtain ⟨N, dS, G, J, dec, tn, vis, dy, mk, rt, rl, rw, hP, hM, hW, hR, hB⟩ := hI
  obtain ⟨⟨hN2, hN9⟩, hPs, hMp, hPrest⟩ := hP
  subst hPs hMp
  have h512 := pow2N hN9
  rcases pk_ix p1 (n := 2 ^ N) (by omega) with c | c | ⟨S, hS, rfl⟩
  · exact set_out hN9 (Or.inl c) (gi_t rfl (mset_out hN9 (Or.inl c) (gi_t rfl ⟨rfl, hI0⟩)))
  · exact set_out hN9 (Or.inr c) (gi_t rfl (mset_out hN9 (Or.inr c) (gi_t rfl ⟨rfl, hI0⟩)))
  · refine set_in hS hN9 (gi_f (by decide) (sp_touches (by omega) hR.2.2.2 (mset_in hS hN9 (gi_f (by decide) (sp_honestOf hN9 (by omega) hR ⟨?_, hI0⟩)))))
    rw [hon_eq (rw9 hN9 hR)]
/-! round -/
theorem pir_sp {row : Int32} {i q : Nat} (e : nibI row i = nI q) {post : Int32 → Prop} (h : post (nI q)) : wp_X4_placeInRow row (nI i) post := by
  show post (nibI row i)
  rw [e]
  exact h
theorem isRow_sp {n N : Nat} (hn : n ≤ 8) (hN : N ≤ 9) {row : Int32} {post : Int32 → Prop} (h1 : (∀ i, i < n → nb row i < N) → post 1) (h0 : (∃ i, i < n ∧ ¬ nb row i < N) → post 0) : wp_X4_isRow (nI n) row (nI N) post := by
  refine gl_find (fun k i => wl_X4_isRow_2 (nI n) row (nI N) post k (nI i)) n (fun i => ¬ nb row i < N) (fun i => Decidable.em _) ?_ ?_ ?_
  · intro k i hi hp
    refine gi_f (nI_ge hi (by omega)) ?_
    obtain ⟨e, hlt⟩ := nb_eq row i
    refine pir_sp e ?_
    exact place_out (Or.inr (nI_le (by omega) (by omega))) (gi_t rfl (h0 ⟨i, hi, hp⟩))
  · intro k i hi hp hk
    refine gi_f (nI_ge hi (by omega)) ?_
    obtain ⟨e, hlt⟩ := nb_eq row i
    refine pir_sp e ?_
    exact place_in (by omega) hN (gi_f (by decide) (gi_r (nI_1 i) hk))
  · intro hno k
    exact gi_t (nI_le (Nat.le_refl n) (by omega)) (h1 (fun i hi => by have := hno i hi; omega))
theorem neg_add_nI {X t : Nat} (h : t ≤ X) : nI X + -nI t = nI (X - t) := by rw [← Int32.sub_eq_add_neg, pk_sub h]
theorem sub_sp {n t : Nat} (hn : n ≤ 8) {row : Int32} {q : Nat → Nat} (hq : ∀ i, i < n → q i < 9 ∧ nibI row i = nI (q i)) {H : Nat → Nat} {Ra : Nat → Int32} (hRa : ∀ p, p < 9 → Ra p = nI (H p)) (hC : ∀ p, p < 9 → gs (fun i => if q i = p then t else 0) n ≤ H p) {post : (Nat → Int32) → Prop} (h : ∀ s, (∀ p, p < 9 → s p = nI (H p - gs (fun i => if q i = p then t else 0) n)) → post s) : wp_X1_addTouches (-nI t) (nI n) row Ra post := by
  refine gl_inv (Post := post) (fun k i s => wl_X1_addTouches_3 (-nI t) (nI n) row post k (nI i) s) n (fun i s => upd s (q i) (s (q i) + -nI t)) (fun i s => ∀ p, p < 9 → s p = nI (H p - gs (fun j => if q j = p then t else 0) i)) Ra hRa ?_ ?_ (fun k s hp => gi_t (nI_le (Nat.le_refl n) (by omega)) hp) h
  · intro i s hi hI p hp
    have hm : gs (fun j => if q j = p then t else 0) (i + 1) ≤ gs (fun j => if q j = p then t else 0) n := by
      have : ∀ k, gs (fun j => if q j = p then t else 0) (i + 1) ≤ gs (fun j => if q j = p then t else 0) (i + 1 + k) := by
        intro k
        induction k with
        | zero => exact Nat.le_refl _
        | succ k ih => exact Nat.le_trans ih (Nat.le_add_right _ _)
      have h2 := this (n - (i + 1))
      rw [show i + 1 + (n - (i + 1)) = n from by omega] at h2
      exact h2
    have hc := hC p hp
    rcases Nat.decEq (q i) p with e | e
    · rw [upd_n _ _ (fun w => e w.symm), hI p hp, gs, if_neg e, Nat.add_zero]
    · rw [← e, upd_s, hI (q i) (hq i hi).1, e]
      rw [gs, if_pos e] at hm
      rw [gs, if_pos e, neg_add_nI (by omega)]
      congr 1
      omega
  · intro k i s hi hI hk
    obtain ⟨h9, e⟩ := hq i hi
    refine gi_f (nI_ge hi (by omega)) (gi_f (nI_ge (b := 8) (by omega) (by decide)) ?_)
    refine pir_sp e ?_
    have hv : vp_in (nI (q i)) 9 := vp_in_nI h9 (by decide)
    refine gi_f (nI_ge (b := 9) h9 (by decide)) ⟨hv, hv, ?_⟩
    rw [cl9 (by omega)]
    exact gi_n (gi_r (nI_1 i) hk)
theorem add_sp {n t : Nat} (hn : n ≤ 8) {row : Int32} {q : Nat → Nat} (hq : ∀ i, i < n → q i < 9 ∧ nibI row i = nI (q i)) {H : Nat → Nat} {Ra : Nat → Int32} (hRa : ∀ p, p < 9 → Ra p = nI (H p)) {post : (Nat → Int32) → Prop} (h : ∀ s, (∀ p, p < 9 → s p = nI (H p + gs (fun i => if q i = p then t else 0) n)) → post s) : wp_X1_addTouches (nI t) (nI n) row Ra post := by
  refine gl_inv (Post := post) (fun k i s => wl_X1_addTouches_3 (nI t) (nI n) row post k (nI i) s) n (fun i s => upd s (q i) (s (q i) + nI t)) (fun i s => ∀ p, p < 9 → s p = nI (H p + gs (fun j => if q j = p then t else 0) i)) Ra hRa ?_ ?_ (fun k s hp => gi_t (nI_le (Nat.le_refl n) (by omega)) hp) h
  · intro i s hi hI p hp
    rcases Nat.decEq (q i) p with e | e
    · rw [upd_n _ _ (fun w => e w.symm), hI p hp, gs, if_neg e, Nat.add_zero]
    · rw [← e, upd_s, hI (q i) (hq i hi).1, nI_add, gs, if_pos rfl, Nat.add_assoc]
  · intro k i s hi hI hk
    obtain ⟨h9, e⟩ := hq i hi
    refine gi_f (nI_ge hi (by omega)) (gi_f (nI_ge (b := 8) (by omega) (by decide)) ?_)
    refine pir_sp e ?_
    have hv : vp_in (nI (q i)) 9 := vp_in_nI h9 (by decide)
    refine gi_f (nI_ge (b := 9) h9 (by decide)) ⟨hv, hv, ?_⟩
    rw [cl9 (by omega)]
    exact gi_n (gi_r (nI_1 i) hk)
theorem gs_part (f : Nat → Nat) {i : Nat} : ∀ {n : Nat}, i < n → f i ≤ gs f n
  | 0, h => absurd h (Nat.not_lt_zero i)
  | n + 1, h => by
    rw [gs]
    rcases Nat.lt_or_ge i n with q | q
    · have := gs_part f q
      omega
    · have e : i = n := by omega
      subst e
      omega
theorem mround_sp {r t n N : Nat} (hr : r < 6) (ht : t ≤ 99) (hn : n ≤ 8) (hN2 : 2 ≤ N) (hN : N ≤ 9) {row : Int32} {Mti Mrl Mrr : Nat → Int32} {post : Int32 → (Nat → Int32) → (Nat → Int32) → (Nat → Int32) → Prop} (h0 : (∃ i, i < n ∧ ¬ nb row i < N) → post 0 Mti Mrl Mrr) (h1 : (∀ i, i < n → nb row i < N) → ∀ s, (∀ j, j < n → s (8 * r + j) = nI (nb row j)) → (∀ k, k < 8 * r ∨ 8 * r + 8 ≤ k → s k = Mrr k) → post 1 (upd Mti r (nI t)) (upd Mrl r (nI n)) s) : wp_X5_round (nI r) (nI t) (nI n) row (nI N) Mti Mrl Mrr post := by
  refine isIn_t (a := 0) (b := 5) (Nat.zero_le r) (by omega) (by decide) (gi_f (by decide) (isIn_t (a := 0) (b := 99) (Nat.zero_le t) ht (by decide) (gi_f (by decide) (isIn_t (a := 0) (b := 8) (Nat.zero_le n) hn (by decide) (gi_f (by decide) ?_)))))
  refine gl_find (fun k i => wl_X5_round_34 (nI n) row (nI N) Mti Mrl Mrr _ post k (nI i)) n (fun i => ¬ nb row i < N) (fun i => Decidable.em _) ?_ ?_ ?_
  · intro k i hi hp
    refine gi_f (nI_ge hi (by omega)) ?_
    rw [nib_eq (by omega)]
    obtain ⟨e, hlt⟩ := nb_eq row i
    rw [e]
    exact mplace_out hN2 hN (Or.inr (nI_le (by omega) (by omega))) (gi_t rfl (h0 ⟨i, hi, hp⟩))
  · intro k i hi hp hk
    refine gi_f (nI_ge hi (by omega)) ?_
    rw [nib_eq (by omega)]
    obtain ⟨e, hlt⟩ := nb_eq row i
    rw [e]
    exact mplace_in (by omega) hN (gi_f (by decide) (gi_r (nI_1 i) hk))
  · intro hno k
    have hok : ∀ i, i < n → nb row i < N := fun i hi => by have := hno i hi; omega
    have hv : vp_in (nI r) 6 := vp_in_nI hr (by decide)
    refine gi_t (nI_le (Nat.le_refl n) (by omega)) ⟨hv, ?_⟩
    rw [cl9 (by omega)]
    refine gi_n ⟨hv, gi_n ?_⟩
    refine gl_inv (Post := fun s => post 1 (upd Mti r (nI t)) (upd Mrl r (nI n)) s) (fun k i s => wl_X5_round_82 (nI r) (nI n) row (upd Mti r (nI t)) (upd Mrl r (nI n)) post k (nI i) s) n (fun i s => upd s (8 * r + i) (nI (nb row i))) (fun i s => (∀ j, j < i → s (8 * r + j) = nI (nb row j)) ∧ (∀ k, k < 8 * r ∨ 8 * r + 8 ≤ k → s k = Mrr k)) Mrr ⟨fun j hj => absurd hj (by omega), fun _ _ => rfl⟩ ?_ ?_ (fun k s hp => gi_t (nI_le (Nat.le_refl n) (by omega)) hp) (fun s hs => h1 hok s hs.1 hs.2)
    · intro i s hi hs
      refine ⟨fun j hj => ?_, fun k hk => ?_⟩
      · rcases Nat.decEq j i with e | e
        · rw [upd_n _ _ (by omega)]; exact hs.1 j (by omega)
        · rw [e, upd_s]
      · rw [upd_n _ _ (by omega)]; exact hs.2 k hk
    · intro k i s hi hs hk
      refine gi_f (nI_ge hi (by omega)) ?_
      rw [show (8 : Int32) * nI r + nI i = nI (8 * r + i) from by rw [show (8 : Int32) = nI 8 from rfl, pk_mul, nI_add], nib_eq (by omega), (nb_eq row i).1, cl9 (by omega)]
      exact ⟨vp_in_nI (by omega) (by decide), gi_n (gi_r (nI_1 i) hk)⟩
theorem st_round : Step_round Inv := by
  intro Pd Pm Ps Pg Pj Bt Bi Bf Br Rt Rl Rr Ra Wt Wa Wk Wd Wn We Wb Hv Mp Mv Mb Me Md Mdo Mk Mm Mta Mkn Mti Mrl Mrr Mt Mn Mw Mwl Mws Mf Mpa Mne hI p1 p2 p3 p4
  have hI0 := hI
  obtain ⟨N, dS, G, J, dec, tn, vis, dy, mk, rt, rl, rw, hP, hM, hW, hR, hB⟩ := hI
  obtain ⟨⟨hN2, hN9⟩, hPs, hMp, hPrest⟩ := hP
  subst hPs hMp
  rcases pk_ix p1 (n := 6) (by decide) with c | c | ⟨r, hr, rfl⟩
  · exact gi_t c (isIn_f (Or.inl c) (gi_t rfl ⟨rfl, hI0⟩))
  · have c5 := lt_of_S (b := 5) (by decide) c
    exact gi_c (fun _ => isIn_f (Or.inr c5) (gi_t rfl ⟨rfl, hI0⟩)) (fun _ => gi_t c (isIn_f (Or.inr c5) (gi_t rfl ⟨rfl, hI0⟩)))
  · refine gi_f (nlt0 (by omega)) (gi_f (nI_ge (b := 6) hr (by decide)) ?_)
    have a1 : ∀ {post : Int32 → Prop}, post 1 → wp_X5_isIn (nI r) 0 5 post := fun h => isIn_t (a := 0) (b := 5) (Nat.zero_le r) (by omega) (by decide) h
    rcases pk_ix p2 (n := 100) (by decide) with c | c | ⟨t, ht, rfl⟩
    · exact gi_t c (a1 (gi_f (by decide) (isIn_f (Or.inl c) (gi_t rfl ⟨rfl, hI0⟩))))
    · have c5 := lt_of_S (b := 99) (by decide) c
      have c6 : ¬ p2 ≤ 99 := by
        have c7 : nI 99 < p2 := c5
        rw [fa_lt] at c7
        rw [fa_le]
        exact Int.not_le.mpr c7
      exact gi_c (fun _ => a1 (gi_f (by decide) (isIn_f (Or.inr c5) (gi_t rfl ⟨rfl, hI0⟩)))) (fun _ => gi_f c6 (a1 (gi_f (by decide) (isIn_f (Or.inr c5) (gi_t rfl ⟨rfl, hI0⟩)))))
    · refine gi_f (nlt0 (by omega)) (gi_t (nI_le (b := 99) (by omega) (by decide)) ?_)
      have a2 : ∀ {post : Int32 → Prop}, post 1 → wp_X5_isIn (nI t) 0 99 post := fun h => isIn_t (a := 0) (b := 99) (Nat.zero_le t) (by omega) (by decide) h
      rcases pk_ix p3 (n := 9) (by decide) with c | c | ⟨n, hn, rfl⟩
      · exact gi_t c (a1 (gi_f (by decide) (a2 (gi_f (by decide) (isIn_f (Or.inl c) (gi_t rfl ⟨rfl, hI0⟩))))))
      · have c5 := lt_of_S (b := 8) (by decide) c
        exact gi_c (fun _ => a1 (gi_f (by decide) (a2 (gi_f (by decide) (isIn_f (Or.inr c5) (gi_t rfl ⟨rfl, hI0⟩)))))) (fun _ => gi_t c5 (a1 (gi_f (by decide) (a2 (gi_f (by decide) (isIn_f (Or.inr c5) (gi_t rfl ⟨rfl, hI0⟩)))))))
      · refine gi_f (nlt0 (by omega)) (gi_f (fun q => absurd ((nI_ltI (a := 8) (by decide) (by omega)).mp q) (by omega)) ?_)
        refine isRow_sp (by omega) hN9 (fun hok => ?_) (fun hno => ?_)
        · refine gi_f (by decide) ?_
          obtain ⟨h1, h2, h3, h4⟩ := hR
          obtain ⟨e1, e2, e3, e4⟩ := h1 r hr
          have hv : vp_in (nI r) 6 := vp_in_nI hr (by decide)
          refine gi_f (nlt0 (by omega)) (gi_t (nI_lt (b := 6) hr (by decide)) ⟨hv, hv, hv, ?_⟩)
          rw [cl9 (by omega), e1, e3]
          have hrl := (h2 r).2
          refine sub_sp hrl (q := rw r) (fun i hi => ⟨Nat.lt_of_lt_of_le (h3 r i hr hi).1 hN9, (h3 r i hr hi).2.1⟩) h4 (fun p hp => ?_) (fun Ra1 hRa1 => ⟨hv, gi_n ⟨hv, gi_n ⟨hv, gi_n ?_⟩⟩⟩)
          · exact gs_part (fun r => gs (fun i => if rw r i = p then rt r else 0) (rl r)) hr
          · refine add_sp (by omega) (q := nb p4) (fun i hi => ⟨Nat.lt_of_lt_of_le (hok i hi) hN9, (nb_eq p4 i).1⟩) hRa1 (fun Ra2 hRa2 => ?_)
            refine mround_sp hr (by omega) (by omega) hN2 hN9 (fun hno => absurd hno (fun ⟨i, q1, q2⟩ => q2 (hok i q1))) (fun _ Mrr2 m1 m2 => ⟨rfl, ?_⟩)
            refine ⟨N, dS, G, J, dec, tn, vis, dy, mk, fun x => if x = r then t else rt x, fun x => if x = r then n else rl x, fun x i => if x = r then nb p4 i else rw x i, ⟨⟨hN2, hN9⟩, rfl, rfl, hPrest⟩, hM, hW, ⟨?_, ?_, ?_, ?_⟩, hB⟩
            · intro x hx
              rcases Nat.decEq x r with q | q
              · rw [upd_n _ _ q, upd_n _ _ q, upd_n _ _ q, upd_n _ _ q]
                simp only [if_neg q]
                exact h1 x hx
              · subst q
                rw [upd_s, upd_s, upd_s, upd_s]
                simp only [if_true]
                exact ⟨trivial, trivial, trivial, trivial⟩
            · intro x
              rcases Nat.decEq x r with q | q
              · simp only [if_neg q]; exact h2 x
              · simp only [if_pos q]; exact ⟨by omega, by omega⟩
            · intro x i hx hi
              rcases Nat.decEq x r with q | q
              · simp only [if_neg q] at hi ⊢
                obtain ⟨k1, k2, k3⟩ := h3 x i hx hi
                have := (h2 x).2
                rw [upd_n _ _ q, m2 _ (by omega)]
                exact ⟨k1, k2, k3⟩
              · subst q
                simp only [if_true] at hi ⊢
                rw [upd_s]
                exact ⟨hok i hi, (nb_eq p4 i).1, m1 i hi⟩
            · intro p hp
              rw [hRa2 p hp]
              congr 1
              have k1 := gs_upd (fun r => gs (fun i => if rw r i = p then rt r else 0) (rl r)) (gs (fun i => if nb p4 i = p then t else 0) n) hr
              have k2 : hon (fun x => if x = r then t else rt x) (fun x => if x = r then n else rl x) (fun x i => if x = r then nb p4 i else rw x i) p = gs (fun k => if k = r then gs (fun i => if nb p4 i = p then t else 0) n else gs (fun i => if rw k i = p then rt k else 0) (rl k)) 6 := by
                refine gs_cong (fun x _ => ?_)
                rcases Nat.decEq x r with q | q
                · simp only [if_neg q]
                · simp only [if_pos q]
              have k3 : gs (fun i => if rw r i = p then rt r else 0) (rl r) ≤ hon rt rl rw p := gs_part (fun r => gs (fun i => if rw r i = p then rt r else 0) (rl r)) hr
              have k4 : hon rt rl rw p = gs (fun r => gs (fun i => if rw r i = p then rt r else 0) (rl r)) 6 := rfl
              rw [k2]
              omega
        · exact gi_t rfl (mround_sp hr (by omega) (by omega) hN2 hN9 (fun _ => ⟨rfl, hI0⟩) (fun hok => absurd hno (fun ⟨i, q1, q2⟩ => q2 (hok i q1))))
