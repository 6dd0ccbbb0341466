/-! numbers, bits, loops: plain facts. The first rows (fa_, fb_, s_) are pasted from the kit's to-paste texts. -/
theorem fa_lt (a b : Int32) : a < b ↔ a.toInt < b.toInt := Int32.lt_iff_toInt_lt
theorem fa_le (a b : Int32) : a ≤ b ↔ a.toInt ≤ b.toInt := Int32.le_iff_toInt_le
theorem fa_eq (a b : Int32) : a = b ↔ a.toInt = b.toInt := Int32.toInt_inj.symm
theorem fa_lit (n : Nat) : (OfNat.ofNat n : Int32) = nI n := rfl
theorem fa_and (a b : Nat) : nI a &&& nI b = nI (a &&& b) := by
  apply Int32.toBitVec_inj.1
  show BitVec.ofNat 32 a &&& BitVec.ofNat 32 b = BitVec.ofNat 32 (a &&& b)
  apply BitVec.eq_of_getLsbD_eq
  intro i hi
  simp [hi]
theorem fa_or (a b : Nat) : nI a ||| nI b = nI (a ||| b) := by
  apply Int32.toBitVec_inj.1
  show BitVec.ofNat 32 a ||| BitVec.ofNat 32 b = BitVec.ofNat 32 (a ||| b)
  apply BitVec.eq_of_getLsbD_eq
  intro i hi
  simp [hi]
theorem fa_mask (n k : Nat) : nI n &&& nI (2 ^ k - 1) = nI (n % 2 ^ k) := by rw [fa_and, Nat.and_two_pow_sub_one_eq_mod]
theorem fa_or_sum {a k : Nat} (b : Nat) (h : a < 2 ^ k) : nI (2 ^ k * b) ||| nI a = nI (2 ^ k * b + a) := by rw [fa_or, Nat.two_pow_add_eq_or_of_lt h]
theorem fb_xorI (a b : Nat) : nI a ^^^ nI b = nI (a ^^^ b) := by
  apply Int32.toBitVec_inj.1
  show BitVec.ofNat 32 a ^^^ BitVec.ofNat 32 b = BitVec.ofNat 32 (a ^^^ b)
  apply BitVec.eq_of_getLsbD_eq
  intro i hi
  simp [hi]
theorem s_l : ∀ n, n < 32 → ((nI n &&& 31).toBitVec.smod 32).toNat = n := by decide +kernel
theorem s_u : ∀ n, n < 32 → (((nI n).toUInt32 &&& Int32.toUInt32 31).toBitVec % 32).toNat = n := by decide +kernel
/-! goals that are branches or names -/
theorem gi_t {c A B : Prop} [Decidable c] (h : c) (a : A) : if c then A else B := by rw [if_pos h]; exact a
theorem gi_f {c A B : Prop} [Decidable c] (h : ¬ c) (b : B) : if c then A else B := by rw [if_neg h]; exact b
theorem gi_c {c A B : Prop} [Decidable c] (a : c → A) (b : ¬ c → B) : if c then A else B := by
  rcases Decidable.em c with h | h
  · rw [if_pos h]; exact a h
  · rw [if_neg h]; exact b h
theorem gi_n {α : Sort _} {e : α} {k : α → Prop} (h : k e) : gq_nm e k := h
theorem gi_r {α : Sort _} {e e' : α} {k : α → Prop} (he : e = e') (h : k e') : gq_nm e k := by subst he; exact h
theorem gi_b {b : Bool} {A B : Prop} (h0 : b = false → A) (h1 : b = true → B) : if (if b then (1 : Int32) else 0) = 0 then A else B := by
  cases b
  · exact gi_t rfl (h0 rfl)
  · exact gi_f (by decide) (h1 rfl)
theorem gi_b1 {b : Bool} {A B : Prop} (h1 : b = true → A) (h0 : b = false → B) : if (if b then (1 : Int32) else 0) = 1 then A else B := by
  cases b
  · exact gi_f (by decide) (h0 rfl)
  · exact gi_t rfl (h1 rfl)
theorem gi_zb (b : Bool) : gq_zb (if b then 1 else 0) := by cases b <;> simp [gq_zb]
/-! loops that count up -/
def gfold {σ : Type} (f : Nat → σ → σ) : Nat → σ → σ
  | 0, s => s
  | n + 1, s => f n (gfold f n s)
theorem gl_for {σ : Type} {Post : σ → Prop} (L : Nat → Nat → σ → Prop) (B : Nat) (f : Nat → σ → σ) (I : Nat → σ → Prop) (s0 : σ) (hI0 : I 0 s0) (hI : ∀ i s, i < B → I i s → I (i + 1) (f i s)) (hs : ∀ n i s, i < B → I i s → L n (i + 1) (f i s) → L (n + 1) i s) (he : ∀ n s, I B s → Post s → L (n + 1) B s) (h : Post (gfold f B s0)) : ∃ k, L k 0 s0 := by
  have hIk : ∀ i, i ≤ B → I i (gfold f i s0) := by
    intro i
    induction i with
    | zero => intro _; exact hI0
    | succ i ih => intro hi; exact hI i _ (by omega) (ih (by omega))
  have key : ∀ j, j ≤ B → L (j + 1) (B - j) (gfold f (B - j) s0) := by
    intro j
    induction j with
    | zero => intro _; exact he 0 _ (hIk B (Nat.le_refl B)) h
    | succ j ih =>
      intro hj
      have e : B - (j + 1) + 1 = B - j := by omega
      have h2 := ih (by omega)
      rw [← e] at h2
      exact hs _ _ _ (by omega) (hIk _ (by omega)) h2
  have h3 := key B (Nat.le_refl B)
  rw [Nat.sub_self] at h3
  exact ⟨_, h3⟩
/-- the same without an invariant -/
theorem gl_for0 {σ : Type} {Post : σ → Prop} (L : Nat → Nat → σ → Prop) (B : Nat) (f : Nat → σ → σ) (s0 : σ) (hs : ∀ n i s, i < B → L n (i + 1) (f i s) → L (n + 1) i s) (he : ∀ n s, Post s → L (n + 1) B s) (h : Post (gfold f B s0)) : ∃ k, L k 0 s0 :=
  gl_for L B f (fun _ _ => True) s0 trivial (fun _ _ _ _ => trivial) (fun n i s hi _ => hs n i s hi) (fun n s _ => he n s) h
/-! sums -/
def gs (f : Nat → Nat) : Nat → Nat
  | 0 => 0
  | n + 1 => gs f n + f n
theorem gs_cong {f g : Nat → Nat} : ∀ {n : Nat}, (∀ k, k < n → f k = g k) → gs f n = gs g n
  | 0, _ => rfl
  | n + 1, h => by rw [gs, gs, gs_cong (fun k hk => h k (by omega)), h n (by omega)]
theorem gs_add (f g : Nat → Nat) : ∀ n, gs (fun k => f k + g k) n = gs f n + gs g n
  | 0 => rfl
  | n + 1 => by rw [gs, gs, gs, gs_add f g n]; omega
theorem gs_zero : ∀ n, gs (fun _ => 0) n = 0
  | 0 => rfl
  | n + 1 => by rw [gs, gs_zero n]
theorem gs_swap (f : Nat → Nat → Nat) (m : Nat) : ∀ n, gs (fun i => gs (fun j => f i j) m) n = gs (fun j => gs (fun i => f i j) n) m
  | 0 => by
    show 0 = gs (fun j => 0) m
    rw [gs_zero]
  | n + 1 => by
    rw [gs, gs_swap f m n, ← gs_add]
    rfl
theorem gs_one {p : Nat} (v : Nat) : ∀ {n : Nat}, p < n → gs (fun k => if k = p then v else 0) n = v
  | 0, h => absurd h (Nat.not_lt_zero p)
  | n + 1, h => by
    rw [gs]
    rcases Nat.lt_or_ge p n with q | q
    · rw [gs_one v q, if_neg (by omega)]
      rfl
    · have e : p = n := by omega
      subst e
      have h0 : gs (fun k => if k = p then v else 0) p = gs (fun _ => 0) p := gs_cong (fun k hk => if_neg (by omega))
      rw [h0, gs_zero, if_pos rfl, Nat.zero_add]
theorem gs_le {f g : Nat → Nat} : ∀ {n : Nat}, (∀ k, k < n → f k ≤ g k) → gs f n ≤ gs g n
  | 0, _ => Nat.le_refl _
  | n + 1, h => by
    rw [gs, gs]
    have h1 := gs_le (n := n) (fun k hk => h k (by omega))
    have h2 := h n (by omega)
    omega
theorem gs_const (c : Nat) : ∀ n, gs (fun _ => c) n = n * c
  | 0 => by rw [Nat.zero_mul]; rfl
  | n + 1 => by rw [gs, gs_const c n, Nat.succ_mul]
theorem gs_upd (f : Nat → Nat) (v : Nat) {i : Nat} : ∀ {n : Nat}, i < n → gs (fun k => if k = i then v else f k) n + f i = gs f n + v
  | 0, h => absurd h (Nat.not_lt_zero i)
  | n + 1, h => by
    rw [gs, gs]
    rcases Nat.lt_or_ge i n with q | q
    · have := gs_upd f v q
      rw [if_neg (by omega)]
      omega
    · have e : i = n := by omega
      subst e
      have h0 : gs (fun k => if k = i then v else f k) i = gs f i := gs_cong (fun k hk => if_neg (by omega))
      rw [h0, if_pos rfl]
      omega
theorem gf_sum {g : Nat → Int32} {f : Nat → Nat} : ∀ {n : Nat}, (∀ k, k < n → g k = nI (f k)) → ∀ s : Nat, gfold (fun k (x : Int32) => x + g k) n (nI s) = nI (s + gs f n)
  | 0, _, s => rfl
  | n + 1, h, s => by
    rw [gfold, gf_sum (fun k hk => h k (by omega)) s, h n (by omega), nI_add, gs, Nat.add_assoc]
theorem gf_cong {σ : Type} {f g : Nat → σ → σ} : ∀ {n : Nat} {s : σ}, (∀ k s, k < n → f k s = g k s) → gfold f n s = gfold g n s
  | 0, _, _ => rfl
  | n + 1, s, h => by rw [gfold, gfold, gf_cong (fun k s hk => h k s (by omega)), h n _ (by omega)]
/-! sets of places: numbers below 512 -/
def popc (S : Nat) : Nat := gs (fun k => if S.testBit k then 1 else 0) 9
theorem tb_out {S k : Nat} (hS : S < 512) (hk : 9 ≤ k) : S.testBit k = false := Nat.testBit_lt_two_pow (Nat.lt_of_lt_of_le hS (Nat.pow_le_pow_right (n := 2) (by decide) hk : 2 ^ 9 ≤ 2 ^ k))
theorem tb_ext {S T : Nat} (hS : S < 512) (hT : T < 512) (h : ∀ k, k < 9 → S.testBit k = T.testBit k) : S = T := by
  apply Nat.eq_of_testBit_eq
  intro i
  rcases Nat.lt_or_ge i 9 with q | q
  · exact h i q
  · rw [tb_out hS q, tb_out hT q]
theorem lt512_and {S T : Nat} (hS : S < 512) : S &&& T < 512 := Nat.lt_of_le_of_lt Nat.and_le_left hS
theorem lt512_or {S T : Nat} (hS : S < 512) (hT : T < 512) : S ||| T < 512 := Nat.or_lt_two_pow (n := 9) hS hT
theorem lt512_xor {S T : Nat} (hS : S < 512) (hT : T < 512) : S ^^^ T < 512 := Nat.xor_lt_two_pow (n := 9) hS hT
theorem pow9 {k : Nat} (hk : k < 9) : 2 ^ k < 512 := Nat.pow_lt_pow_right (by decide) hk
def cmp9 (S : Nat) : Nat := 511 ^^^ S
theorem cmp9_lt {S : Nat} (hS : S < 512) : cmp9 S < 512 := lt512_xor (by decide) hS
theorem tb_cmp9 (S : Nat) {k : Nat} (hk : k < 9) : (cmp9 S).testBit k = !S.testBit k := by
  have h : (511 : Nat).testBit k = true := by
    have := Nat.testBit_two_pow_sub_one 9 k
    rw [show (2 : Nat) ^ 9 - 1 = 511 from rfl] at this
    rw [this]; exact decide_eq_true hk
  rw [cmp9, Nat.testBit_xor, h, Bool.true_xor]
/-- without: S and not T -/
theorem nI_wo {S T : Nat} (hS : S < 512) (hT : T < 512) : nI S &&& (nI T ^^^ (-1)) = nI (S &&& cmp9 T) := by
  rw [show (-1 : Int32) = nI (2 ^ 32 - 1) from rfl, fb_xorI, fa_and]
  congr 1
  apply Nat.eq_of_testBit_eq
  intro i
  rw [Nat.testBit_and, Nat.testBit_and]
  rcases Nat.lt_or_ge i 9 with q | q
  · rw [Nat.testBit_xor, Nat.testBit_two_pow_sub_one, tb_cmp9 T q, decide_eq_true (by omega), Bool.xor_true]
  · rw [tb_out hS q, Bool.false_and, Bool.false_and]
theorem pb_has : ∀ S, S < 512 → ∀ k, k < 9 → gq_ushr (nI S) (nI k) &&& 1 = (if S.testBit k then 1 else 0) := by decide +kernel
theorem pb_shr : ∀ S, S < 512 → ∀ k, k < 9 → (nI S >>> (nI k &&& 31)) &&& 1 = (if S.testBit k then 1 else 0) := by decide +kernel
theorem pb_one : ∀ k, k < 10 → (1 : Int32) <<< (nI k &&& 31) = nI (2 ^ k) := by decide +kernel
theorem pb_cmp : ∀ S, S < 512 → (nI S ^^^ (-1)) &&& 511 = nI (cmp9 S) := by decide +kernel
theorem pb_511 : ∀ S, S < 512 → nI S &&& 511 = nI S := by decide +kernel
def bcx (p1 : Int32) : Int32 :=
  let v1 := p1 - ((gq_ushr p1 1) &&& 1431655765)
  let v2 := (v1 &&& 858993459) + ((gq_ushr v1 2) &&& 858993459)
  let v3 := (v2 + (gq_ushr v2 4)) &&& 252645135
  let v4 := v3 + (gq_ushr v3 8)
  let v5 := v4 + (gq_ushr v4 16)
  v5 &&& 63
theorem pb_bc : ∀ S, S < 512 → bcx (nI S) = nI (popc S) := by decide +kernel
theorem sp_bc {S : Nat} (hS : S < 512) {post : Int32 → Prop} (h : post (nI (popc S))) : wp_J6_bitCount_0f7a4 (nI S) post := by
  rw [← pb_bc S hS] at h
  exact h
theorem nlt0 {k : Nat} (hk : k < 2 ^ 31) : ¬ nI k < 0 := nI_pos hk
theorem sp_has {S k : Nat} (hS : S < 512) (hk : k < 9) {post : Int32 → Prop} (h : post (if S.testBit k then 1 else 0)) : wp_X4_has (nI S) (nI k) post := by
  unfold wp_X4_has
  refine gi_f (nlt0 (by omega)) (gi_f (nI_ge (b := 9) hk (by decide)) ?_)
  rw [pb_has S hS k hk]
  refine gi_b1 (fun e => ?_) (fun e => ?_)
  · rw [e] at h; exact h
  · rw [e] at h; exact h
theorem sp_has_out {x y : Int32} (hy : y < 0 ∨ 9 ≤ y) {post : Int32 → Prop} (h : post 0) : wp_X4_has x y post := by
  unfold wp_X4_has
  refine gi_c (fun _ => h) (fun c1 => ?_)
  rcases hy with q | q
  · exact absurd q c1
  · exact gi_t q h
theorem sp_setOf {k : Nat} (hk : k < 9) {post : Int32 → Prop} (h : post (nI (2 ^ k))) : wp_X4_setOf (nI k) post := by
  unfold wp_X4_setOf
  refine gi_f (nlt0 (by omega)) (gi_f (nI_ge (b := 9) hk (by decide)) ?_)
  rw [pb_one k (by omega)]
  exact h
theorem sp_setOf_out {y : Int32} (hy : y < 0 ∨ 9 ≤ y) {post : Int32 → Prop} (h : post 0) : wp_X4_setOf y post := by
  unfold wp_X4_setOf
  refine gi_c (fun _ => h) (fun c1 => ?_)
  rcases hy with q | q
  · exact absurd q c1
  · exact gi_t q h
theorem sp_bits {S : Nat} (hS : S < 512) {post : Int32 → Prop} (h : post (nI (popc S))) : wp_X5_bits (nI S) post := by
  unfold wp_X5_bits
  refine gl_for0 (Post := post) (fun n i x => wl_X5_bits_4 (nI S) post n x (nI i)) 9 (fun k x => x + (if S.testBit k then 1 else 0)) 0 ?_ ?_ ?_
  · intro n i s hi hn
    unfold wl_X5_bits_4
    refine gi_f (nI_ge (b := 9) hi (by decide)) (gi_r (e' := s + (if S.testBit i then 1 else 0)) (by rw [pb_shr S hS i hi]) (gi_r (e' := nI (i + 1)) (nI_1 i) ?_))
    exact hn
  · intro n s hp
    unfold wl_X5_bits_4
    exact gi_t (by decide) hp
  · have e := gf_sum (g := fun k => if S.testBit k then (1 : Int32) else 0) (f := fun k => if S.testBit k then 1 else 0) (n := 9) (fun k _ => by cases S.testBit k <;> rfl) 0
    rw [Nat.zero_add] at e
    rw [popc, ← e] at h
    exact h
