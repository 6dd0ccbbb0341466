/-! ways: sets, trails, counts -/
theorem tb_wset (k : Nat) : ∀ w : List Nat, (wset w).testBit k = decide (k ∈ w)
  | [] => by
    show (0 : Nat).testBit k = _
    rw [Nat.zero_testBit]
    exact (decide_eq_false (List.not_mem_nil)).symm
  | p :: t => by
    rw [wset, Nat.testBit_or, tb_pow, tb_wset k t]
    rcases Nat.decEq p k with q | q
    · rw [decide_eq_false q, Bool.false_or]
      have e : (k ∈ p :: t) = (k ∈ t) := propext ⟨fun h => (List.mem_cons.mp h).elim (fun e => absurd e.symm q) id, fun h => List.mem_cons_of_mem _ h⟩
      simp only [e]
    · subst q
      rw [decide_eq_true rfl, Bool.true_or]
      exact (decide_eq_true (List.mem_cons_self)).symm
theorem wset_lt : ∀ {w : List Nat}, (∀ p ∈ w, p < 9) → wset w < 512
  | [], _ => by decide
  | p :: t, h => lt512_or (pow9 (h p List.mem_cons_self)) (wset_lt (fun q hq => h q (List.mem_cons_of_mem _ hq)))
theorem wset_app (w : List Nat) (q : Nat) : wset (w ++ [q]) = wset w ||| 2 ^ q := by
  apply Nat.eq_of_testBit_eq
  intro k
  rw [tb_set, tb_wset, tb_wset]
  rcases Decidable.em (k ∈ w) with h | h
  · rw [decide_eq_true h, Bool.true_or]
    exact decide_eq_true (List.mem_append_left _ h)
  · rw [decide_eq_false h, Bool.false_or]
    rcases Nat.decEq q k with e | e
    · rw [decide_eq_false e]
      refine decide_eq_false (fun hm => ?_)
      rcases List.mem_append.mp hm with h1 | h1
      · exact h h1
      · exact e (List.mem_singleton.mp h1).symm
    · rw [decide_eq_true e]
      exact decide_eq_true (List.mem_append_right _ (List.mem_singleton.mpr e.symm))
theorem enc_lt : ∀ {w : List Nat}, (∀ p ∈ w, p < 9) → enc w < 16 ^ w.length
  | [], _ => by decide
  | p :: t, h => by
    have h1 := enc_lt (w := t) (fun q hq => h q (List.mem_cons_of_mem _ hq))
    have h2 := h p List.mem_cons_self
    rw [enc, List.length_cons, Nat.pow_succ]
    omega
theorem enc_app (q : Nat) : ∀ w : List Nat, enc (w ++ [q]) = enc w + (q + 1) * 16 ^ w.length
  | [] => by
    show (q + 1) + 16 * 0 = 0 + (q + 1) * 16 ^ 0
    rw [Nat.pow_zero]
    omega
  | p :: t => by
    show (p + 1) + 16 * enc (t ++ [q]) = (p + 1) + 16 * enc t + (q + 1) * 16 ^ (t.length + 1)
    rw [enc_app q t, Nat.pow_succ, Nat.mul_add]
    have e : 16 * ((q + 1) * 16 ^ t.length) = (q + 1) * (16 ^ t.length * 16) := by rw [Nat.mul_comm, Nat.mul_assoc]
    rw [e]
    omega
theorem pow16 (n : Nat) : 16 ^ n = 2 ^ (4 * n) := by rw [Nat.pow_mul]
theorem with_sp {path : List Nat} {n q : Nat} (hn : path.length = n) (hn6 : n < 6) (hq : q < 9) (hp : ∀ p ∈ path, p < 9) {post : Int32 → Prop} (h : post (nI (enc (path ++ [q])))) : wp_X4_withPlace (nI (enc path)) (nI n) (nI q) post := by
  have hlt := enc_lt hp
  rw [hn, pow16] at hlt
  have hpw : 2 ^ (4 * n) ≤ 2 ^ 20 := Nat.pow_le_pow_right (by decide) (by omega)
  have e : nI (enc path) ||| ((nI q + 1) <<< ((4 * nI n) &&& 31)) = nI (enc (path ++ [q])) := by
    rw [nI_1, mul4, pk_shlN _ (4 * n) (s_l (4 * n) (by omega)) (by have := Nat.mul_le_mul (show q + 1 ≤ 9 by omega) hpw; omega), fa_or, enc_app, hn, pow16]
    congr 1
    rw [Nat.or_comm, Nat.mul_comm (q + 1), ← Nat.two_pow_add_eq_or_of_lt hlt, Nat.add_comm]
  unfold wp_X4_withPlace
  refine gi_f (nlt0 (by omega)) (gi_f (nI_ge (b := 6) hn6 (by decide)) ?_)
  rw [e]
  exact h
theorem cntP_app {α : Type} (p : α → Bool) : ∀ a b : List α, cntP p (a ++ b) = cntP p a + cntP p b
  | [], b => by rw [List.nil_append]; exact (Nat.zero_add _).symm
  | x :: a, b => by
    show (if p x then 1 else 0) + cntP p (a ++ b) = (if p x then 1 else 0) + cntP p a + cntP p b
    rw [cntP_app p a b, Nat.add_assoc]
theorem cntP_cong {α : Type} {p q : α → Bool} : ∀ {l : List α}, (∀ a ∈ l, p a = q a) → cntP p l = cntP q l
  | [], _ => rfl
  | a :: l, h => by rw [cntP, cntP, h a List.mem_cons_self, cntP_cong (fun b hb => h b (List.mem_cons_of_mem _ hb))]
theorem cntP_add {α : Type} {p q r : α → Bool} : ∀ {l : List α}, (∀ a ∈ l, (if p a then 1 else 0) + (if q a then 1 else 0) = (if r a then 1 else 0)) → cntP p l + cntP q l = cntP r l
  | [], _ => rfl
  | a :: l, h => by
    have h1 := h a List.mem_cons_self
    have h2 := cntP_add (l := l) (fun b hb => h b (List.mem_cons_of_mem _ hb))
    rw [cntP, cntP, cntP]
    omega
theorem cntP_not {α : Type} (p : α → Bool) : ∀ l : List α, cntP p l + cntP (fun a => !p a) l = l.length
  | [] => rfl
  | a :: l => by
    have := cntP_not p l
    rw [cntP, cntP, List.length_cons]
    cases p a <;> simp <;> omega
theorem cntP_le {α : Type} (p : α → Bool) (l : List α) : cntP p l ≤ l.length := by
  have := cntP_not p l
  omega
theorem getD_l {α : Type} {a b : List α} {i : Nat} {d : α} (h : i < a.length) : (a ++ b).getD i d = a.getD i d := by
  rw [List.getD_eq_getElem?_getD, List.getD_eq_getElem?_getD, List.getElem?_append_left h]
theorem getD_e {α : Type} (a : List α) (x d : α) : (a ++ [x]).getD a.length d = x := by
  rw [List.getD_eq_getElem?_getD, List.getElem?_append_right (Nat.le_refl _), Nat.sub_self]
  rfl
theorem bk_full {WL X : List (List Nat)} {rel : Nat → Nat → Bool} {Bt Bi : Nat → Int32} {Bf : Int32} (h : 2001 ≤ WL.length) (hB : BK WL rel Bt Bi Bf) : BK (WL ++ X) rel Bt Bi Bf := by
  obtain ⟨b1, b2, b3⟩ := hB
  have hl : (WL ++ X).length = WL.length + X.length := List.length_append
  refine ⟨?_, ?_, ?_⟩
  · rw [b1, hl]
    congr 1
    omega
  · intro i hi hi2
    rw [getD_l (by omega)]
    exact b2 i (by omega) hi2
  · intro S hS
    rw [List.take_append_of_le_length h]
    exact b3 S hS
theorem write_sp {WL : List (List Nat)} {w : List Nat} {Bt Bi : Nat → Int32} {Bf : Int32} (hl : WL.length ≤ 2000) (hw : wset w < 512) (hB : BK WL rEq Bt Bi Bf) {post : (Nat → Int32) → (Nat → Int32) → Int32 → Prop} (h : ∀ Bt' Bi' Bf', BK (WL ++ [w]) rEq Bt' Bi' Bf' → post Bt' Bi' Bf') : wp_X3_writeDown (nI (enc w)) (nI (wset w)) Bt Bi Bf post := by
  obtain ⟨b1, b2, b3⟩ := hB
  have hm : min WL.length 2001 = WL.length := by omega
  rw [hm] at b1
  subst b1
  have ht : WL.take 2001 = WL := List.take_of_length_le (by omega)
  rw [ht] at b3
  have hl2 : (WL ++ [w]).length = WL.length + 1 := by rw [List.length_append]; rfl
  have ht2 : (WL ++ [w]).take 2001 = WL ++ [w] := List.take_of_length_le (by omega)
  have hv : vp_in (nI (wset w)) 512 := vp_in_nI hw (by decide)
  have fin : ∀ Bt' : Nat → Int32, (∀ i, i < WL.length + 1 → i < 2000 → Bt' i = nI (enc ((WL ++ [w]).getD i []))) → post Bt' (upd Bi (wset w) (Bi (wset w) + 1)) (nI (WL.length + 1)) := by
    intro Bt' hb
    refine h _ _ _ ⟨?_, ?_, ?_⟩
    · rw [hl2]
      congr 1
      omega
    · intro i hi hi2
      exact hb i (by omega) hi2
    · intro S hS
      rw [ht2, cntP_app]
      rcases Nat.decEq S (wset w) with q | q
      · rw [upd_n _ _ q, b3 S hS]
        congr 1
        show _ = _ + ((if rEq (wset w) S then 1 else 0) + 0)
        rw [rEq, decide_eq_false (fun e => q e.symm)]
        rfl
      · rw [q, upd_s, b3 _ hw, nI_1]
        congr 1
        show _ = _ + ((if rEq (wset w) (wset w) then 1 else 0) + 0)
        rw [rEq, decide_eq_true rfl]
        rfl
  unfold wp_X3_writeDown
  rw [pb_511 _ hw, cl9 (show wset w < 2 ^ 31 by omega)]
  refine gi_c (fun c => gi_r (nI_1 _) ⟨hv, hv, gi_n ?_⟩) (fun c => ⟨?_, gi_n (gi_r (nI_1 _) ⟨hv, hv, gi_n ?_⟩)⟩)
  · have h2 : 2000 ≤ WL.length := (nI_leI (a := 2000) (by decide) (by omega)).mp c
    refine fin Bt (fun i hi hi2 => ?_)
    rw [getD_l (by omega)]
    exact b2 i (by omega) hi2
  · have h2 : WL.length < 2000 := by
      rcases Nat.lt_or_ge WL.length 2000 with q | q
      · exact q
      · exact absurd (nI_le (a := 2000) q (by omega)) c
    exact vp_in_nI h2 (by decide)
  · rw [cl9 (by omega)]
    refine fin _ (fun i hi hi2 => ?_)
    rcases Nat.decEq i WL.length with q | q
    · rw [upd_n _ _ q, getD_l (by omega)]
      exact b2 i (by omega) hi2
    · rw [q, upd_s, getD_e]
/-! the class's walk -/
theorem mem9 {path : List Nat} {q : Nat} (hp : ∀ p ∈ path, p < 9) (hq : q < 9) : ∀ p ∈ path ++ [q], p < 9 := fun p h => (List.mem_append.mp h).elim (hp p) (fun h => by rw [List.mem_singleton.mp h]; exact hq)
theorem walk_sp {dS : Nat → Nat} {J N : Nat} {Pd : Nat → Int32} (hN : N ≤ 9) (hPd : ∀ a, a < 9 → Pd a = nI (dS a)) (hdS : ∀ a, dS a < 2 ^ N) (hJ : J < 512) : ∀ (f : Nat) (path : List Nat) (last : Nat) (WL : List (List Nat)) (Bt Bi : Nat → Int32) (Bf : Int32) (post : (Nat → Int32) → (Nat → Int32) → Int32 → Prop), path.length + f = 6 → (∀ p ∈ path, p < 9) → last < N → BK WL rEq Bt Bi Bf → (∀ Bt' Bi' Bf', BK (WL ++ wg dS J f last path) rEq Bt' Bi' Bf' → post Bt' Bi' Bf') → wp_X3_walkOn (f + 1) (nI last) (nI path.length) (nI (enc path)) (nI (wset path)) Pd (nI N) (nI J) Bt Bi Bf post := by
  have h512 := pow2N hN
  intro f
  induction f with
  | zero =>
    intro path last WL Bt Bi Bf post hlen hp hl hB h
    refine gi_f (fun c => absurd ((nI_ltI (b := 6) (by omega) (by decide)).mp c) (by omega)) ?_
    refine h _ _ _ ?_
    show BK (WL ++ []) rEq Bt Bi Bf
    rw [List.append_nil]
    exact hB
  | succ f ih =>
    intro path last WL Bt Bi Bf post hlen hp hl hB h
    rw [wg_succ] at h
    have hws := wset_lt hp
    have hda := hdS last
    refine gi_t (nI_lt (b := 6) (by omega) (by decide)) ?_
    refine doorSet_sp hl hN (hPd last (by omega)) ?_
    refine gi_r (nI_wo (by omega) hws) ?_
    -- the loop, for any set 'op' of open places
    have loop : ∀ op, op < 512 → (∀ q, q < 9 → op.testBit q = ((dS last).testBit q && !decide (q ∈ path) && (J.testBit q || decide (f ≠ 0)))) → ∀ (k q : Nat), q + k = 9 → ∀ (WL : List (List Nat)) (Bt Bi : Nat → Int32) (Bf : Int32), BK WL rEq Bt Bi Bf → (∀ Bt' Bi' Bf', BK (WL ++ wr (wbody dS J f last path) k q) rEq Bt' Bi' Bf' → post Bt' Bi' Bf') → wl_X3_walkOn_36 (nI path.length) (nI (enc path)) (nI (wset path)) Pd (nI N) (nI J) (nI op) (wp_X3_walkOn (f + 1)) post (k + 1) (nI q) Bt Bi Bf := by
      intro op hop htb k
      induction k with
      | zero =>
        intro q hq WL Bt Bi Bf hB h
        refine gi_t (nI_le (a := 9) (by omega) (by omega)) ?_
        refine h _ _ _ ?_
        show BK (WL ++ []) rEq Bt Bi Bf
        rw [List.append_nil]
        exact hB
      | succ k ihk =>
        intro q hq WL Bt Bi Bf hB h
        have hq9 : q < 9 := by omega
        refine gi_f (nI_ge (b := 9) hq9 (by decide)) ?_
        have hBf := hB.1
        rcases Nat.lt_or_ge 2000 WL.length with hbig | hsm
        · refine gi_t ?_ (h _ _ _ (bk_full (by omega) hB))
          rw [hBf]
          exact nI_lt (a := 2000) (by omega) (by omega)
        · refine gi_f ?_ ?_
          · rw [hBf]
            intro c
            exact absurd ((nI_ltI (a := 2000) (by decide) (by omega)).mp c) (by omega)
          · have htq := htb q hq9
            refine sp_has hop hq9 ?_
            refine gi_b (fun hb => ?_) (fun hb => ?_)
            · refine gi_r (nI_1 q) (ihk (q + 1) (by omega) WL Bt Bi Bf hB (fun Bt' Bi' Bf' hB' => h _ _ _ ?_))
              have e : wbody dS J f last path q = [] := by
                rw [hb] at htq
                unfold wbody
                rcases Decidable.em ((dS last).testBit q = true ∧ q ∉ path) with c | c
                · rw [if_pos c]
                  rw [c.1, decide_eq_false c.2] at htq
                  have hJq : J.testBit q = false := by
                    cases hj : J.testBit q
                    · rfl
                    · rw [hj] at htq; exact absurd htq (by simp)
                  have hf0 : f = 0 := by
                    rcases Nat.decEq f 0 with e | e
                    · rw [decide_eq_true e] at htq; exact absurd htq (by simp)
                    · exact e
                  rw [hJq, hf0]
                  rfl
                · rw [if_neg c]
              show BK (WL ++ (wbody dS J f last path q ++ wr (wbody dS J f last path) k (q + 1))) rEq Bt' Bi' Bf'
              rw [e]
              exact hB'
            · rw [hb] at htq
              have hd : (dS last).testBit q = true := by
                cases hd : (dS last).testBit q
                · rw [hd] at htq; exact absurd htq (by simp)
                · rfl
              have hnp : q ∉ path := by
                intro hm
                rw [decide_eq_true hm] at htq
                exact absurd htq (by simp)
              have hqN := lt_N hda hd
              have hp2 := mem9 hp hq9
              refine with_sp rfl (by omega) hq9 hp ?_
              refine gi_jewel ?_
              refine sp_has hJ hq9 ?_
              have eset : nI (wset path) ||| nI (2 ^ q) = nI (wset (path ++ [q])) := by rw [fa_or, wset_app]
              have elen : (path ++ [q]).length = path.length + 1 := by rw [List.length_append]; rfl
              refine gi_b (fun hj => ?_) (fun hj => ?_)
              · refine sp_setOf hq9 ?_
                rw [eset, nI_1, ← elen]
                refine ih (path ++ [q]) q WL Bt Bi Bf _ (by omega) hp2 hqN hB (fun Bt' Bi' Bf' hB' => gi_r (nI_1 q) (ihk (q + 1) (by omega) _ _ _ _ hB' (fun Bt2 Bi2 Bf2 hB2 => h _ _ _ ?_)))
                rw [List.append_assoc] at hB2
                have e : wbody dS J f last path q = wg dS J f q (path ++ [q]) := by
                  unfold wbody
                  rw [if_pos ⟨hd, hnp⟩, hj, if_neg (by decide)]
                show BK (WL ++ (wbody dS J f last path q ++ wr (wbody dS J f last path) k (q + 1))) rEq Bt2 Bi2 Bf2
                rw [e]
                exact hB2
              · refine sp_setOf hq9 ?_
                rw [eset]
                refine write_sp hsm (wset_lt hp2) hB (fun Bt' Bi' Bf' hB' => gi_r (nI_1 q) (ihk (q + 1) (by omega) _ _ _ _ hB' (fun Bt2 Bi2 Bf2 hB2 => h _ _ _ ?_)))
                rw [List.append_assoc] at hB2
                have e : wbody dS J f last path q = [path ++ [q]] := by
                  unfold wbody
                  rw [if_pos ⟨hd, hnp⟩, hj, if_pos rfl]
                show BK (WL ++ (wbody dS J f last path q ++ wr (wbody dS J f last path) k (q + 1))) rEq Bt2 Bi2 Bf2
                rw [e]
                exact hB2
    rcases Nat.decEq f 0 with hf | hf
    · refine gi_f (fun c => absurd ((nI_eq (b := 5) (by omega) (by decide)).mp c) (by omega)) ?_
      refine ⟨10, loop _ (lt512_and (by omega)) (fun q hq => ?_) 9 0 rfl WL Bt Bi Bf hB h⟩
      rw [Nat.testBit_and, tb_cmp9 _ hq, tb_wset, decide_eq_true hf, Bool.or_true, Bool.and_true]
    · subst hf
      have e5 : path.length = 5 := by omega
      refine gi_t (by rw [e5]; rfl) ?_
      refine gi_jewel ?_
      refine gi_r (fa_and _ _) ?_
      refine ⟨10, loop _ (lt512_and (lt512_and (by omega))) (fun q hq => ?_) 9 0 rfl WL Bt Bi Bf hB h⟩
      rw [Nat.testBit_and, Nat.testBit_and, tb_cmp9 _ hq, tb_wset]
      have e0 : decide ((0 : Nat) ≠ 0) = false := by decide
      rw [e0, Bool.or_false]
