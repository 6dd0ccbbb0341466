/-! every way's places are below 9 -/
theorem wr_mem {α : Type} {P : α → Prop} {body : Nat → List α} (h : ∀ q, q < 9 → ∀ w ∈ body q, P w) : ∀ k q, q + k ≤ 9 → ∀ w ∈ wr body k q, P w
  | 0, _, _, w, hw => absurd hw List.not_mem_nil
  | k + 1, q, hq, w, hw => (List.mem_append.mp hw).elim (h q (by omega) w) (wr_mem h k (q + 1) (by omega) w)
theorem wg_mem {dS : Nat → Nat} {J : Nat} : ∀ f last path, (∀ p ∈ path, p < 9) → ∀ w ∈ wg dS J f last path, ∀ p ∈ w, p < 9
  | 0, _, _, _, w, hw => absurd hw List.not_mem_nil
  | f + 1, last, path, hp, w, hw => by
    rw [wg_succ] at hw
    refine wr_mem (P := fun w => ∀ p ∈ w, p < 9) (fun q hq w hw => ?_) 9 0 (by decide) w hw
    unfold wbody at hw
    rcases Decidable.em ((dS last).testBit q = true ∧ q ∉ path) with c | c
    · rw [if_pos c] at hw
      rcases Decidable.em (J.testBit q = true) with d | d
      · rw [if_pos d] at hw
        rw [List.mem_singleton.mp hw]
        exact mem9 hp hq
      · rw [if_neg d] at hw
        exact wg_mem f q (path ++ [q]) (mem9 hp hq) w hw
    · rw [if_neg c] at hw
      exact absurd hw List.not_mem_nil
theorem ways_mem (dS : Nat → Nat) (G J : Nat) : ∀ w ∈ ways dS G J, ∀ p ∈ w, p < 9 := by
  refine wr_mem (P := fun w => ∀ p ∈ w, p < 9) (fun q hq w hw => ?_) 9 0 (by decide)
  unfold wgate at hw
  rcases Decidable.em (G.testBit q = true) with c | c
  · rw [if_pos c] at hw
    exact wg_mem 5 q [q] (fun p hp => by rw [List.mem_singleton.mp hp]; exact hq) w hw
  · rw [if_neg c] at hw
    exact absurd hw List.not_mem_nil
/-! sums over all subsets -/
def relJ (p T S j : Nat) : Bool := if j < p then (!T.testBit j || S.testBit j) else (T.testBit j == S.testBit j)
def relP (p T S : Nat) : Bool := gfold (fun j (b : Bool) => b && relJ p T S j) 9 true
theorem relP_iff {p T S : Nat} : relP p T S = true ↔ ∀ j, j < 9 → relJ p T S j = true := gf_all _ 9
theorem bool_iff {a b : Bool} (h : a = true ↔ b = true) : a = b := by
  cases a <;> cases b <;> simp at h <;> rfl
theorem relP_0 {T S : Nat} (hT : T < 512) (hS : S < 512) : relP 0 T S = rEq T S := by
  apply bool_iff
  rw [relP_iff]
  unfold rEq
  rw [decide_eq_true_eq]
  constructor
  · intro h
    refine tb_ext hT hS (fun k hk => ?_)
    have h1 := h k hk
    unfold relJ at h1
    rw [if_neg (by omega)] at h1
    exact eq_of_beq h1
  · intro h j _
    unfold relJ
    rw [if_neg (by omega), h]
    exact beq_self_eq_true _
theorem relP_9 {T S : Nat} (hT : T < 512) : relP 9 T S = rSub T S := by
  apply bool_iff
  rw [relP_iff]
  unfold rSub
  rw [decide_eq_true_eq, sub_iff hT]
  constructor
  · intro h k hk hs
    have h1 := h k hk
    unfold relJ at h1
    rw [if_pos hk, hs] at h1
    exact h1
  · intro h j hj
    unfold relJ
    rw [if_pos hj]
    cases ht : T.testBit j
    · rfl
    · rw [h j hj ht]; rfl
/-- a set without the place p counts as before -/
theorem relP_no {p T S : Nat} (hp : p < 9) (hs : S.testBit p = false) : relP (p + 1) T S = relP p T S := by
  apply bool_iff
  rw [relP_iff, relP_iff]
  have key : ∀ j, relJ (p + 1) T S j = relJ p T S j := by
    intro j
    unfold relJ
    rcases Nat.lt_trichotomy j p with q | q | q
    · rw [if_pos (by omega), if_pos q]
    · subst q
      rw [if_pos (by omega), if_neg (by omega), hs]
      cases T.testBit j <;> rfl
    · rw [if_neg (by omega), if_neg (by omega)]
  simp only [key]
/-- a set with the place p counts what it did and what the set without it does -/
theorem relP_yes {p T S : Nat} (hp : p < 9) (hS : S < 512) (hs : S.testBit p = true) : (if relP p T S then 1 else 0) + (if relP p T (clr S p) then 1 else 0) = (if relP (p + 1) T S then 1 else 0) := by
  have hj : ∀ j, j ≠ p → relJ p T (clr S p) j = relJ p T S j ∧ relJ (p + 1) T S j = relJ p T S j := by
    intro j hne
    unfold relJ
    rw [tb_clr hS, decide_eq_false (fun h => hne h.symm), Bool.not_false, Bool.and_true]
    refine ⟨rfl, ?_⟩
    rcases Nat.lt_or_ge j p with q | q
    · rw [if_pos (by omega), if_pos q]
    · rw [if_neg (by omega), if_neg (by omega)]
  have hp1 : relJ p T S p = T.testBit p := by
    unfold relJ
    rw [if_neg (by omega), hs]
    cases T.testBit p <;> rfl
  have hp2 : relJ p T (clr S p) p = !T.testBit p := by
    unfold relJ
    rw [if_neg (by omega), tb_clr hS, decide_eq_true rfl, Bool.not_true, Bool.and_false]
    cases T.testBit p <;> rfl
  have hp3 : relJ (p + 1) T S p = true := by
    unfold relJ
    rw [if_pos (by omega), hs, Bool.or_true]
  rcases Classical.em (∀ j, j < 9 → j ≠ p → relJ p T S j = true) with c | c
  · have e3 : relP (p + 1) T S = true := by
      rw [relP_iff]
      intro j h9
      rcases Nat.decEq j p with q | q
      · rw [(hj j q).2]; exact c j h9 q
      · rw [q]; exact hp3
    cases ht : T.testBit p
    · have e1 : relP p T S = false := by
        cases h : relP p T S
        · rfl
        · have := relP_iff.mp h p hp
          rw [hp1, ht] at this
          exact absurd this (by decide)
      have e2 : relP p T (clr S p) = true := by
        rw [relP_iff]
        intro j h9
        rcases Nat.decEq j p with q | q
        · rw [(hj j q).1]; exact c j h9 q
        · rw [q, hp2, ht]; rfl
      rw [e1, e2, e3]
      rfl
    · have e1 : relP p T S = true := by
        rw [relP_iff]
        intro j h9
        rcases Nat.decEq j p with q | q
        · exact c j h9 q
        · rw [q, hp1]; exact ht
      have e2 : relP p T (clr S p) = false := by
        cases h : relP p T (clr S p)
        · rfl
        · have := relP_iff.mp h p hp
          rw [hp2, ht] at this
          exact absurd this (by decide)
      rw [e1, e2, e3]
      rfl
  · have no : ∀ b : Bool, ∀ q S', (b = relP q T S') → (∀ j, j ≠ p → relJ q T S' j = relJ p T S j) → b = false := by
      intro b q S' hb he
      cases b
      · rfl
      · refine absurd (fun j h9 hne => ?_) c
        rw [← he j hne]
        exact relP_iff.mp hb.symm j h9
    rw [no _ p S rfl (fun _ _ => rfl), no _ p (clr S p) rfl (fun j h => (hj j h).1), no _ (p + 1) S rfl (fun j h => (hj j h).2)]
    rfl
theorem clr_lt_self {S p : Nat} (hS : S < 512) (hs : S.testBit p = true) : clr S p < S := by
  have hle : clr S p ≤ S := Nat.and_le_left
  rcases Nat.lt_or_ge (clr S p) S with q | q
  · exact q
  · have e : clr S p = S := by omega
    have h1 := tb_clr hS (a := p) p
    rw [e, hs, decide_eq_true rfl] at h1
    exact absurd h1 (by decide)
theorem sum_sp {L : List (List Nat)} (hL : ∀ w ∈ L, wset w < 512) {Bi : Nat → Int32} (hB : ∀ S, S < 512 → Bi S = nI (cntP (fun w => rEq (wset w) S) L)) {post : (Nat → Int32) → Prop} (h : ∀ Bi', (∀ S, S < 512 → Bi' S = nI (cntP (fun w => rSub (wset w) S) L)) → post Bi') : wp_X3_sumInside Bi post := by
  have hc : ∀ p, p < 9 → ∀ S, S < 512 → S.testBit p = true → cntP (fun w => relP p (wset w) S) L + cntP (fun w => relP p (wset w) (clr S p)) L = cntP (fun w => relP (p + 1) (wset w) S) L := fun p hp S hS hs => cntP_add (fun w _ => relP_yes hp hS hs)
  have hn : ∀ p, p < 9 → ∀ S, S.testBit p = false → cntP (fun w => relP (p + 1) (wset w) S) L = cntP (fun w => relP p (wset w) S) L := fun p hp S hs => cntP_cong (fun w _ => relP_no hp hs)
  have inner : ∀ p, p < 9 → ∀ (X : Int32 → (Nat → Int32) → Prop) (B : Nat → Int32), (∀ S, S < 512 → B S = nI (cntP (fun w => relP p (wset w) S) L)) → (∀ B', (∀ S, S < 512 → B' S = nI (cntP (fun w => relP (p + 1) (wset w) S) L)) → X (nI 512) B') → ∃ k, wl_X3_sumInside_10 (nI p) X k 0 B := by
    intro p hp X B hB hX
    refine gl_inv (Post := fun s => X (nI 512) s) (fun n i s => wl_X3_sumInside_10 (nI p) X n (nI i) s) 512 (fun i s => if i.testBit p then upd s i (s i + s (clr i p)) else s) (fun i s => (∀ S, S < i → s S = nI (cntP (fun w => relP (p + 1) (wset w) S) L)) ∧ (∀ S, i ≤ S → S < 512 → s S = nI (cntP (fun w => relP p (wset w) S) L))) B ⟨fun S hS => absurd hS (by omega), fun S _ hS => hB S hS⟩ ?_ ?_ (fun n s hp => gi_t (by decide) hp) (fun s hs => hX s hs.1)
    · intro i s hi ⟨i1, i2⟩
      cases ht : i.testBit p
      · rw [if_neg (by decide)]
        refine ⟨fun S hS => ?_, fun S h1 h2 => i2 S (by omega) h2⟩
        rcases Nat.lt_or_ge S i with q | q
        · exact i1 S q
        · have e : S = i := by omega
          rw [e, i2 i (Nat.le_refl i) hi, hn p hp i ht]
      · rw [if_pos rfl]
        have hlt := clr_lt_self hi ht
        have hcf : (clr i p).testBit p = false := by rw [tb_clr hi, decide_eq_true rfl]; simp
        refine ⟨fun S hS => ?_, fun S h1 h2 => ?_⟩
        · rcases Nat.decEq S i with q | q
          · rw [upd_n _ _ q]; exact i1 S (by omega)
          · rw [q, upd_s, i2 i (Nat.le_refl i) hi, i1 _ hlt, hn p hp _ hcf, nI_add, hc p hp i hi ht]
        · rw [upd_n _ _ (by omega)]; exact i2 S (by omega) h2
    · intro n i s hi hI hk
      refine gi_f (nI_ge (b := 512) hi (by decide)) ?_
      refine sp_has hi hp ?_
      have hv : vp_in (nI i) 512 := vp_in_nI hi (by decide)
      refine gi_b (fun hb => ?_) (fun hb => ⟨hv, ?_⟩)
      · rw [hb] at hk
        exact gi_r (nI_1 i) hk
      · rw [hb] at hk
        refine sp_setOf hp ?_
        rw [show nI i &&& (nI (2 ^ p) ^^^ (-1)) = nI (clr i p) from nI_wo hi (pow9 hp), cl9 (by omega), cl9 (show clr i p < 2 ^ 31 by have := clr_lt (a := p) hi; omega)]
        exact ⟨vp_in_nI (clr_lt hi) (by decide), hv, gi_n (gi_r (nI_1 i) hk)⟩
  have outer : ∀ k p, p + k = 9 → ∀ B : Nat → Int32, (∀ S, S < 512 → B S = nI (cntP (fun w => relP p (wset w) S) L)) → wl_X3_sumInside_2 post (k + 1) (nI p) B := by
    intro k
    induction k with
    | zero =>
      intro p hp B hB
      refine gi_t (nI_le (a := 9) (by omega) (by omega)) (h B (fun S hS => ?_))
      rw [hB S hS, show p = 9 from by omega]
      congr 1
      exact cntP_cong (fun w hw => relP_9 (hL w hw))
    | succ k ih =>
      intro p hp B hB
      refine gi_f (nI_ge (b := 9) (by omega) (by decide)) ?_
      exact inner p (by omega) _ B hB (fun B' hB' => gi_r (nI_1 p) (ih (p + 1) (by omega) B' hB'))
  refine ⟨10, outer 9 0 rfl Bi (fun S hS => ?_)⟩
  rw [hB S hS]
  congr 1
  exact cntP_cong (fun w hw => (relP_0 (hL w hw) hS).symm)
/-! the book read anew -/
theorem book_sp {N : Nat} {dS : Nat → Nat} {G J : Nat} {Pd : Nat → Int32} (hN : N ≤ 9) (hPd : ∀ a, a < 9 → Pd a = nI (dS a)) (hdS : ∀ a, dS a < 2 ^ N) (hG : G < 2 ^ N) (hJ : J < 512) {Bt Bi : Nat → Int32} {Bf Br : Int32} (hB : I_book dS G J Bt Bi Bf Br) {post : (Nat → Int32) → (Nat → Int32) → Int32 → Int32 → Prop} (h : ∀ Bt' Bi' Bf', BK (ways dS G J) rSub Bt' Bi' Bf' → post Bt' Bi' Bf' 1) : wp_X4_bookNow Pd (nI N) (nI G) (nI J) Bt Bi Bf Br post := by
  have h512 := pow2N hN
  unfold wp_X4_bookNow wp_X3_readIfForgotten
  rcases hB with rfl | ⟨rfl, hB⟩
  · refine gi_t rfl (gi_n ?_)
    have loop : ∀ (X : Int32 → (Nat → Int32) → (Nat → Int32) → Int32 → Prop), ∀ (k q : Nat), q + k = 9 → ∀ (WL : List (List Nat)) (Bt Bi : Nat → Int32) (Bf : Int32), BK WL rEq Bt Bi Bf → (∀ Bt' Bi' Bf', BK (WL ++ wr (wgate dS G J) k q) rEq Bt' Bi' Bf' → X (nI 9) Bt' Bi' Bf') → wl_X3_readIfForgotten_23 Pd (nI N) (nI G) (nI J) X (k + 1) (nI q) Bt Bi Bf := by
      intro X k
      induction k with
      | zero =>
        intro q hq WL Bt Bi Bf hB h
        have e9 : q = 9 := by omega
        subst e9
        refine gi_t (by decide) (h _ _ _ ?_)
        show BK (WL ++ []) rEq Bt Bi Bf
        rw [List.append_nil]
        exact hB
      | succ k ihk =>
        intro q hq WL Bt Bi Bf hB h
        have hq9 : q < 9 := by omega
        refine gi_f (nI_ge (b := 9) hq9 (by decide)) ?_
        refine gi_gate ?_
        refine sp_has (by omega) hq9 ?_
        refine gi_b (fun hb => ?_) (fun hb => ?_)
        · refine gi_r (nI_1 q) (ihk (q + 1) (by omega) WL Bt Bi Bf hB (fun Bt' Bi' Bf' hB' => h _ _ _ ?_))
          have e : wgate dS G J q = [] := by
            unfold wgate
            rw [hb, if_neg (by decide)]
          show BK (WL ++ (wgate dS G J q ++ wr (wgate dS G J) k (q + 1))) rEq Bt' Bi' Bf'
          rw [e]
          exact hB'
        · have hqN := lt_N hG hb
          refine with_sp (path := []) (n := 0) rfl (by decide) hq9 (fun p hp => absurd hp List.not_mem_nil) ?_
          refine sp_setOf hq9 ?_
          have e1 : nI (2 ^ q) = nI (wset [q]) := by
            show nI (2 ^ q) = nI (2 ^ q ||| 0)
            rw [Nat.or_zero]
          rw [e1]
          refine walk_sp hN hPd hdS hJ 5 [q] q WL Bt Bi Bf _ rfl (fun p hp => by rw [List.mem_singleton.mp hp]; exact hq9) hqN hB (fun Bt' Bi' Bf' hB' => gi_r (nI_1 q) (ihk (q + 1) (by omega) _ _ _ _ hB' (fun Bt2 Bi2 Bf2 hB2 => h _ _ _ ?_)))
          rw [List.append_assoc] at hB2
          have e : wgate dS G J q = wg dS J 5 q [q] := by
            unfold wgate
            rw [hb, if_pos rfl]
          show BK (WL ++ (wgate dS G J q ++ wr (wgate dS G J) k (q + 1))) rEq Bt2 Bi2 Bf2
          rw [e]
          exact hB2
    have hB0 : BK [] rEq Bt (gq_fill 512 Bi 0) 0 := ⟨rfl, fun i hi => absurd hi (by simp), fun S hS => fill_lt hS⟩
    refine ⟨10, loop _ 9 0 rfl [] Bt (gq_fill 512 Bi 0) 0 hB0 (fun Bt' Bi' Bf' hB' => ?_)⟩
    rw [List.nil_append] at hB'
    obtain ⟨b1, b2, b3⟩ := hB'
    refine sum_sp (L := (ways dS G J).take 2001) (fun w hw => wset_lt (ways_mem dS G J w (List.mem_of_mem_take hw))) b3 (fun Bi2 hBi2 => ?_)
    exact h _ _ _ ⟨b1, b2, hBi2⟩
  · exact gi_f (by decide) (h _ _ _ hB)
