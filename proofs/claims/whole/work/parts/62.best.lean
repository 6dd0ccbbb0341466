/-! the best set -/
theorem sub0 {a b : Nat} (ha : a < 2 ^ 30) (hb : b < 2 ^ 30) : nI a - nI b = 0 ↔ a = b := by
  rw [fa_eq, pk_sub_toInt ha hb, show (0 : Int32).toInt = 0 from rfl]
  omega
theorem subLe {a b : Nat} (ha : a < 2 ^ 30) (hb : b < 2 ^ 30) : nI a - nI b ≤ 0 ↔ a ≤ b := by
  rw [fa_le, pk_sub_toInt ha hb, show (0 : Int32).toInt = 0 from rfl]
  omega
theorem subGe {a b : Nat} (ha : a < 2 ^ 30) (hb : b < 2 ^ 30) : 0 ≤ nI a - nI b ↔ b ≤ a := by
  rw [fa_le, pk_sub_toInt ha hb, show (0 : Int32).toInt = 0 from rfl]
  omega
theorem popc_le (S : Nat) : popc S ≤ 9 := by
  unfold popc
  have h : gs (fun k => if S.testBit k then 1 else 0) 9 ≤ gs (fun _ => 1) 9 := gs_le (fun k _ => by cases S.testBit k <;> decide)
  rw [gs_const] at h
  exact h
theorem tch_le (WL : List (List Nat)) (S : Nat) : tch WL S ≤ WL.length := cntP_le _ _
theorem gf_stop {σ : Type} {f : Nat → σ → σ} {m : Nat} : ∀ {n : Nat} {s : σ}, m ≤ n → (∀ i s, m ≤ i → i < n → f i s = s) → gfold f n s = gfold f m s
  | 0, s, hm, _ => by
    have e : m = 0 := by omega
    rw [e]
  | n + 1, s, hm, h => by
    rcases Nat.decEq m (n + 1) with e | e
    · rw [gfold, gf_stop (by omega) (fun i s h1 h2 => h i s h1 (by omega)), h n _ (by omega) (by omega)]
    · rw [e]
theorem sub_le {S T : Nat} (hS : S < 512) (hT : T < 512) (h : S &&& cmp9 T = 0) : S ≤ T := by
  have h1 := (sub_iff hS).mp h
  have e : S = S &&& T := by
    refine tb_ext hS (lt512_and hS) (fun k hk => ?_)
    rw [Nat.testBit_and]
    cases hs : S.testBit k
    · rfl
    · rw [h1 k hk hs]; rfl
  rw [e]
  exact Nat.and_le_right
theorem lay_le (N G J K : Nat) : layN N G J K ≤ 2 ^ N - 1 := Nat.le_trans Nat.and_le_left (Nat.le_trans Nat.and_le_left Nat.and_le_left)
/-- the order of best: more ways, fewer places, fewer honest touches -/
def btr (T P H : Nat → Nat) (S B : Nat) : Bool := decide (T B < T S) || (decide (T S = T B) && (decide (P S < P B) || (decide (P S = P B) && decide (H S < H B))))
theorem better_sp {WL : List (List Nat)} {Bt Bi : Nat → Int32} {Bf : Int32} {h : Nat → Nat} {Ra : Nat → Int32} {S B : Nat} (hl : WL.length ≤ 2000) (hB : BK WL rSub Bt Bi Bf) (hRa : ∀ p, p < 9 → Ra p = nI (h p)) (hS9 : S < 512) (hB9 : B < 512) (hH : ∀ S, hS h S < 2 ^ 30) {post : Int32 → Prop} (hp : post (if btr (tch WL) popc (hS h) S B then 1 else 0)) : wp_X4_isBetter (nI S) (nI B) Bi Bf Ra post := by
  have t1 := tch_le WL S
  have t2 := tch_le WL B
  have p1 := popc_le S
  have p2 := popc_le B
  have h1 := hH S
  have h2 := hH B
  refine ct_sp hl hB hS9 ?_
  refine ct_sp hl hB hB9 ?_
  refine gi_n ?_
  unfold btr at hp
  rcases Nat.lt_trichotomy (tch WL S) (tch WL B) with q | q | q
  · rw [decide_eq_false (show ¬ tch WL B < tch WL S by omega), decide_eq_false (show ¬ tch WL S = tch WL B by omega)] at hp
    exact gi_f (fun c => absurd ((sub0 (by omega) (by omega)).mp c) (by omega)) (gi_t ((subLe (by omega) (by omega)).mpr (by omega)) hp)
  · refine gi_t ((sub0 (by omega) (by omega)).mpr q) ?_
    rw [decide_eq_false (show ¬ tch WL B < tch WL S by omega), decide_eq_true q] at hp
    refine sp_bc hS9 ?_
    refine sp_bc hB9 ?_
    refine gi_n ?_
    rcases Nat.lt_trichotomy (popc S) (popc B) with r | r | r
    · rw [decide_eq_true r] at hp
      exact gi_f (fun c => absurd ((sub0 (by omega) (by omega)).mp c) (by omega)) (gi_f (fun c => absurd ((subGe (by omega) (by omega)).mp c) (by omega)) hp)
    · refine gi_t ((sub0 (by omega) (by omega)).mpr r) ?_
      rw [decide_eq_false (show ¬ popc S < popc B by omega), decide_eq_true r] at hp
      refine sp_touches hS9 hRa ?_
      refine sp_touches hB9 hRa ?_
      rcases Nat.lt_or_ge (hS h S) (hS h B) with u | u
      · rw [decide_eq_true u] at hp
        exact gi_f (nI_ge u (by omega)) hp
      · rw [decide_eq_false (show ¬ hS h S < hS h B by omega)] at hp
        exact gi_t (nI_le u (by omega)) hp
    · rw [decide_eq_false (show ¬ popc S < popc B by omega), decide_eq_false (show ¬ popc S = popc B by omega)] at hp
      exact gi_f (fun c => absurd ((sub0 (by omega) (by omega)).mp c) (by omega)) (gi_t ((subGe (by omega) (by omega)).mpr (by omega)) hp)
  · rw [decide_eq_true q] at hp
    exact gi_f (fun c => absurd ((sub0 (by omega) (by omega)).mp c) (by omega)) (gi_f (fun c => absurd ((subLe (by omega) (by omega)).mp c) (by omega)) hp)
def ftB (p1 p2 : Int32) (P H : Nat → Nat) (Ly S : Nat) : Bool := decide (S &&& cmp9 Ly = 0) && (decide (¬ p1 < nI (P S)) && decide (¬ p2 < nI (H S)))
def bst (p1 p2 : Int32) (T P H : Nat → Nat) (Ly : Nat) (i s : Nat) : Nat := if ftB p1 p2 P H Ly (i + 1) && btr T P H (i + 1) s then i + 1 else s
theorem bst_lt {p1 p2 : Int32} {T P H : Nat → Nat} {Ly : Nat} : ∀ n, n ≤ 511 → gfold (bst p1 p2 T P H Ly) n 0 < 512
  | 0, _ => by
    show (0 : Nat) < 512
    decide
  | n + 1, h => by
    have ih := bst_lt (p1 := p1) (p2 := p2) (T := T) (P := P) (H := H) (Ly := Ly) n (by omega)
    rw [gfold, bst]
    cases (ftB p1 p2 P H Ly (n + 1) && btr T P H (n + 1) (gfold (bst p1 p2 T P H Ly) n 0))
    · exact ih
    · show n + 1 < 512
      omega
theorem findBest_sp {N G J dy : Nat} {WL : List (List Nat)} {Bt Bi : Nat → Int32} {Bf : Int32} {h : Nat → Nat} {Ra Wk : Nat → Int32} {p1 p2 : Int32} (hN : N ≤ 9) (hG : G < 512) (hJ : J < 512) (hl : WL.length ≤ 2000) (hB : BK WL rSub Bt Bi Bf) (hRa : ∀ p, p < 9 → Ra p = nI (h p)) (hH : ∀ S, hS h S < 2 ^ 30) {post : Int32 → Prop} (hp : post (nI (gfold (bst p1 p2 (tch WL) popc (hS h) (layN N G J (bsF (knB Wk (nI dy)) 9))) (layN N G J (bsF (knB Wk (nI dy)) 9)) 0))) : wp_X4_findBest p1 p2 (nI N) (nI G) (nI J) Bi Bf Ra Wk (nI dy) post := by
  refine sp_layable hN hG hJ ?_
  have hL := lay_lt G J (bsF (knB Wk (nI dy)) 9) hN
  generalize layN N G J (bsF (knB Wk (nI dy)) 9) = Ly at hL hp ⊢
  refine gl_for (Post := fun (s : Nat) => post (nI s)) (fun n i (s : Nat) => wl_X4_findBest_11 p1 p2 Bi Bf Ra (nI Ly) post n (nI s) (nI (i + 1))) Ly (bst p1 p2 (tch WL) popc (hS h) Ly) (fun i s => s < 512) 0 (by decide) ?_ ?_ (fun n s _ hp => gi_t (nI_lt (by omega) (by omega)) hp) hp
  · intro i s hi hs
    show bst p1 p2 (tch WL) popc (hS h) Ly i s < 512
    unfold bst
    cases (ftB p1 p2 popc (hS h) Ly (i + 1) && btr (tch WL) popc (hS h) (i + 1) s)
    · exact hs
    · show i + 1 < 512
      omega
  · intro n i s hi hs hn
    have hi9 : i + 1 < 512 := by omega
    have hle : (i + 1) &&& cmp9 Ly ≤ i + 1 := Nat.and_le_left
    unfold bst ftB at hn
    refine gi_f (nI_nlt (by omega) (by omega)) ?_
    rw [nI_wo hi9 hL]
    rcases Nat.decEq ((i + 1) &&& cmp9 Ly) 0 with q | q
    · rw [decide_eq_false q] at hn
      exact gi_f (nI_ne0 (by omega) (by omega)) (gi_t rfl (gi_r (nI_1 (i + 1)) hn))
    · rw [decide_eq_true q] at hn
      refine gi_t (by rw [q]; rfl) ?_
      refine sp_bc hi9 ?_
      refine gi_c (fun c => ?_) (fun c => ?_)
      · rw [decide_eq_false (show ¬ ¬ p1 < nI (popc (i + 1)) from fun w => w c)] at hn
        exact gi_t rfl (gi_r (nI_1 (i + 1)) hn)
      · rw [decide_eq_true c] at hn
        refine sp_touches hi9 hRa ?_
        refine gi_c (fun d => ?_) (fun d => ?_)
        · rw [decide_eq_false (show ¬ ¬ p2 < nI (hS h (i + 1)) from fun w => w d)] at hn
          exact gi_t rfl (gi_r (nI_1 (i + 1)) hn)
        · rw [decide_eq_true d] at hn
          refine gi_f (by decide) ?_
          refine better_sp hl hB hRa hi9 hs hH ?_
          refine gi_b (fun e => ?_) (fun e => ?_)
          · rw [e] at hn
            exact gi_r (nI_1 (i + 1)) hn
          · rw [e] at hn
            exact gi_r (nI_1 (i + 1)) hn
theorem bst_all {N G J K : Nat} (hN : N ≤ 9) {p1 p2 : Int32} {T P H : Nat → Nat} : gfold (bst p1 p2 T P H (layN N G J K)) (2 ^ N - 1) 0 = gfold (bst p1 p2 T P H (layN N G J K)) (layN N G J K) 0 := by
  have h512 := pow2N hN
  refine gf_stop (lay_le N G J K) (fun i s h1 h2 => ?_)
  unfold bst ftB
  rw [decide_eq_false (fun h => absurd (sub_le (by omega) (lay_lt G J K hN) h) (by omega))]
  rfl
/-- the reference's search, with the same order -/
theorem mbest_sp {N G J dy : Nat} {rt rl : Nat → Nat} {rw : Nat → Nat → Nat} {Rt Rl Rr Ra Mti Mrl Mrr : Nat → Int32} {WL : List (List Nat)} {Mw Mwl Mws : Nat → Int32} {Mf : Int32} {Mk Mkn Wk : Nat → Int32} {p1 p2 : Int32} (hN : N ≤ 9) (hM : MOK WL Mw Mwl Mws Mf) (hws : ∀ w ∈ WL, wset w < 512) (hMk : ∀ p, p < 9 → Mk p = nI (kd G J p)) (w14 : ∀ p, p < N → Wk p = Mkn p) (w15 : ∀ p, N ≤ p → p < 9 → Wk p = 0) (hR : I_rounds N rt rl rw Rt Rl Rr Ra Mti Mrl Mrr) {X : Int32 → Int32 → Int32 → Prop} (hX : ∀ s, s = gfold (bst p1 p2 (tch WL) popc (hS (hon rt rl rw)) (layN N G J (bsF (knB Wk (nI dy)) 9))) (layN N G J (bsF (knB Wk (nI dy)) 9)) 0 → X (nI s) (nI (tch WL s)) (nI (2 ^ N))) : ∃ k41, wl_X5_best_41 p1 p2 (nI N) (nI dy) Mk Mkn Mti Mrl Mrr Mws Mf X k41 0 0 1 := by
  have h512 := pow2N hN
  have hpos : 0 < 2 ^ N := Nat.pow_pos (by decide)
  have hT0 : tch WL 0 = 0 := by
    have e : tch WL 0 = cntP (fun _ => false) WL := cntP_cong (fun w _ => by rw [Nat.and_zero]; rfl)
    rw [e]
    have h1 := cntP_not (fun (_ : List Nat) => true) WL
    have h2 : cntP (fun (_ : List Nat) => true) WL = WL.length := by
      clear h1 e hX hws hM
      induction WL with
      | nil => rfl
      | cons a l ih => rw [cntP, ih, List.length_cons]; show 1 + l.length = l.length + 1; omega
    have h3 : cntP (fun (_ : List Nat) => !true) WL = cntP (fun (_ : List Nat) => false) WL := rfl
    omega
  have hH : ∀ S, hS (hon rt rl rw) S ≤ 4752 := fun S => by rw [hon_eq (rw9 hN hR)]; exact mS_le S hR.2.1
  have hone : (1 : Int32) <<< (nI N &&& 31) = nI (2 ^ N) := pb_one N (by omega)
  have hfr : ∀ S, S < 2 ^ N → freeB N S G J (knB Mkn (nI dy)) = decide (S &&& cmp9 (layN N G J (bsF (knB Wk (nI dy)) 9)) = 0) := fun S hS => free_iff hN hS w14 w15
  have hall := bst_all (N := N) (G := G) (J := J) (K := bsF (knB Wk (nI dy)) 9) hN (p1 := p1) (p2 := p2) (T := tch WL) (P := popc) (H := hS (hon rt rl rw))
  have hX2 := hX _ hall
  clear hX hall
  generalize layN N G J (bsF (knB Wk (nI dy)) 9) = Ly at hfr hX2
  have key := gl_for (Post := fun (s : Nat) => X (nI s) (nI (tch WL s)) (nI (2 ^ N))) (fun n i (s : Nat) => wl_X5_best_41 p1 p2 (nI N) (nI dy) Mk Mkn Mti Mrl Mrr Mws Mf X n (nI s) (nI (tch WL s)) (nI (i + 1))) (2 ^ N - 1) (bst p1 p2 (tch WL) popc (hS (hon rt rl rw)) Ly) (fun i s => s < 512) 0 (by decide) ?_ ?_ ?_ hX2
  · obtain ⟨k, hk⟩ := key
    rw [hT0] at hk
    exact ⟨k, hk⟩
  · intro i s hi hs
    show bst p1 p2 (tch WL) popc (hS (hon rt rl rw)) Ly i s < 512
    unfold bst
    cases (ftB p1 p2 popc (hS (hon rt rl rw)) Ly (i + 1) && btr (tch WL) popc (hS (hon rt rl rw)) (i + 1) s)
    · exact hs
    · show i + 1 < 512
      omega
  · intro n i s hi hs hn
    have hi9 : i + 1 < 512 := by omega
    have t1 := tch_le WL (i + 1)
    have t2 := tch_le WL s
    have hlen := hM.2.1
    have q1 := popc_le (i + 1)
    have q2 := popc_le s
    have h1 := hH (i + 1)
    have h2 := hH s
    have eh : ∀ S, mS rt rl rw S = hS (hon rt rl rw) S := fun S => (hon_eq (rw9 hN hR)).symm
    have skip : wl_X5_best_41 p1 p2 (nI N) (nI dy) Mk Mkn Mti Mrl Mrr Mws Mf X n (nI s) (nI (tch WL s)) (nI (i + 1 + 1)) → gq_nm (nI (i + 1) + 1) (fun v : Int32 => wl_X5_best_41 p1 p2 (nI N) (nI dy) Mk Mkn Mti Mrl Mrr Mws Mf X n (nI s) (nI (tch WL s)) v) := fun h => gi_r (nI_1 (i + 1)) h
    unfold wl_X5_best_41
    rw [hone]
    refine gi_f (nI_ge (by omega) (by omega)) ?_
    unfold bst ftB at hn
    refine sp_bits hi9 ?_
    refine gi_c (fun c => ?_) (fun c => ?_)
    · rw [decide_eq_false (show ¬ ¬ p1 < nI (popc (i + 1)) from fun w => w c), Bool.false_and, Bool.and_false] at hn
      exact gi_r (nI_1 (i + 1)) hn
    · rw [decide_eq_true c, Bool.true_and] at hn
      refine sp_honestOf hN hi9 hR ?_
      rw [eh]
      refine gi_c (fun d => ?_) (fun d => ?_)
      · rw [decide_eq_false (show ¬ ¬ p2 < nI (hS (hon rt rl rw) (i + 1)) from fun w => w d), Bool.and_false] at hn
        exact gi_r (nI_1 (i + 1)) hn
      · rw [decide_eq_true d, Bool.and_true] at hn
        refine sp_isFree hN hi9 hMk ?_
        rw [hfr (i + 1) (by omega)]
        refine gi_b (fun e => ?_) (fun e => ?_)
        · rw [e] at hn
          exact gi_r (nI_1 (i + 1)) hn
        · rw [e, Bool.true_and] at hn
          refine mt_sp hM hws hi9 ?_
          unfold btr at hn
          rcases Nat.lt_trichotomy (tch WL s) (tch WL (i + 1)) with r | r | r
          · rw [decide_eq_true r] at hn
            exact gi_t (nI_lt r (by omega)) (gi_f (by decide) (gi_r (nI_1 (i + 1)) hn))
          · rw [decide_eq_false (show ¬ tch WL s < tch WL (i + 1) by omega), decide_eq_true (show tch WL (i + 1) = tch WL s from r.symm), Bool.false_or, Bool.true_and] at hn
            refine gi_f (nI_nlt (by omega) (by omega)) (gi_t (by rw [r]) ?_)
            refine sp_bits hi9 ?_
            refine sp_bits hs ?_
            rcases Nat.lt_trichotomy (popc (i + 1)) (popc s) with u | u | u
            · rw [decide_eq_true u] at hn
              exact gi_t (nI_lt u (by omega)) (gi_f (by decide) (gi_r (nI_1 (i + 1)) hn))
            · rw [decide_eq_false (show ¬ popc (i + 1) < popc s by omega), decide_eq_true u, Bool.false_or, Bool.true_and] at hn
              refine gi_f (nI_nlt (by omega) (by omega)) ?_
              refine sp_bits hi9 ?_
              refine sp_bits hs ?_
              refine gi_t (by rw [u]) ?_
              refine sp_honestOf hN hi9 hR ?_
              refine sp_honestOf hN hs hR ?_
              rw [eh, eh]
              rcases Nat.lt_or_ge (hS (hon rt rl rw) (i + 1)) (hS (hon rt rl rw) s) with v | v
              · rw [decide_eq_true v] at hn
                exact gi_f (nI_ge v (by omega)) (gi_f (by decide) (gi_r (nI_1 (i + 1)) hn))
              · rw [decide_eq_false (show ¬ hS (hon rt rl rw) (i + 1) < hS (hon rt rl rw) s by omega)] at hn
                exact gi_t (nI_le v (by omega)) (gi_t rfl (gi_r (nI_1 (i + 1)) hn))
            · rw [decide_eq_false (show ¬ popc (i + 1) < popc s by omega), decide_eq_false (show ¬ popc (i + 1) = popc s by omega)] at hn
              refine gi_f (nI_nlt (by omega) (by omega)) ?_
              refine sp_bits hi9 ?_
              refine sp_bits hs ?_
              exact gi_f (fun c => absurd ((nI_eq (by omega) (by omega)).mp c) (by omega)) (gi_t rfl (gi_r (nI_1 (i + 1)) hn))
          · rw [decide_eq_false (show ¬ tch WL s < tch WL (i + 1) by omega), decide_eq_false (show ¬ tch WL (i + 1) = tch WL s by omega)] at hn
            exact gi_f (nI_nlt (by omega) (by omega)) (gi_f (fun c => absurd ((nI_eq (by omega) (by omega)).mp c) (by omega)) (gi_t rfl (gi_r (nI_1 (i + 1)) hn)))
  · intro n s _ hp
    unfold wl_X5_best_41
    rw [hone, show 2 ^ N - 1 + 1 = 2 ^ N from by omega]
    exact gi_t (nI_le (Nat.le_refl _) (by omega)) hp
