/-! the reference's walk -/
def gX (Mp : Int32) (Mdo Mk : Nat → Int32) (post : Int32 → (Nat → Int32) → (Nat → Int32) → (Nat → Int32) → Int32 → (Nat → Int32) → (Nat → Int32) → Prop) (K : Nat) (x4 x5 v13 : Int32) (Mw_6 Mwl_7 Mws_8 : Nat → Int32) (Mf_9 : Int32) (Mpa_10 Mne_11 : Nat → Int32) : Int32 → Prop :=
  (fun (y21 : Int32) => vp_in (x4 - 1) 7 ∧ gq_nm (upd Mne_11 ((x4 - 1)).toNatClampNeg (y21 + 1)) (fun Mne_22 : Nat → Int32 => (if y21 < Mp then vp_in y21 9 ∧ (if (Mk (y21).toNatClampNeg) = 2 then (if Mf_9 = 2000 then post 0 Mw_6 Mwl_7 Mws_8 Mf_9 Mpa_10 Mne_22 else ∃ k147, wl_X5_goes_147 x4 Mf_9 Mpa_10 (fun (y36 : Int32) (Mw_37 : Nat → Int32) => vp_in ((6 * Mf_9) + x4) 12000 ∧ gq_nm (upd Mw_37 (((6 * Mf_9) + x4)).toNatClampNeg y21) (fun Mw_38 : Nat → Int32 => vp_in Mf_9 2000 ∧ gq_nm (upd Mwl_7 (Mf_9).toNatClampNeg (x4 + 1)) (fun Mwl_39 : Nat → Int32 => vp_in Mf_9 2000 ∧ gq_nm (upd Mws_8 (Mf_9).toNatClampNeg (x5 ||| ((1 : Int32) <<< (y21 &&& 31)))) (fun Mws_40 : Nat → Int32 => gq_nm (Mf_9 + 1) (fun v41 : Int32 => wl_X5_goes_20 Mp Mdo Mk post K x4 x5 Mw_38 Mwl_39 Mws_40 v41 Mpa_10 Mne_22))))) k147 0 Mw_6) else (if 5 ≤ x4 then wl_X5_goes_20 Mp Mdo Mk post K x4 x5 Mw_6 Mwl_7 Mws_8 Mf_9 Mpa_10 Mne_22 else vp_in x4 7 ∧ gq_nm (upd Mpa_10 (x4).toNatClampNeg y21) (fun Mpa_26 : Nat → Int32 => vp_in x4 7 ∧ gq_nm (upd Mne_22 (x4).toNatClampNeg 0) (fun Mne_27 : Nat → Int32 => gq_nm (x4 + 1) (fun v28 : Int32 => gq_nm (x5 ||| ((1 : Int32) <<< (y21 &&& 31))) (fun v29 : Int32 => wl_X5_goes_20 Mp Mdo Mk post K v28 v29 Mw_6 Mwl_7 Mws_8 Mf_9 Mpa_26 Mne_27)))))) else gq_nm (x4 + (-1)) (fun v42 : Int32 => gq_nm (x5 &&& (((1 : Int32) <<< (v13 &&& 31)) ^^^ (-1))) (fun v43 : Int32 => wl_X5_goes_20 Mp Mdo Mk post K v42 v43 Mw_6 Mwl_7 Mws_8 Mf_9 Mpa_10 Mne_22)))))
def MOK (WL : List (List Nat)) (Mw Mwl Mws : Nat → Int32) (Mf : Int32) : Prop :=
  Mf = nI WL.length ∧ WL.length ≤ 2000 ∧ ∀ i, i < WL.length → (WL.getD i []).length ≤ 6 ∧ Mwl i = nI (WL.getD i []).length ∧ Mws i = nI (wset (WL.getD i [])) ∧ ∀ j, j < (WL.getD i []).length → Mw (6 * i + j) = nI ((WL.getD i []).getD j 0)
def PTH (path : List Nat) (Mpa : Nat → Int32) : Prop := ∀ i, i < path.length → Mpa i = nI (path.getD i 0)
theorem goes_unf {n S last : Nat} {N : Nat} {Mdo Mk : Nat → Int32} {post : Int32 → (Nat → Int32) → (Nat → Int32) → (Nat → Int32) → Int32 → (Nat → Int32) → (Nat → Int32) → Prop} {K : Nat} {Mw Mwl Mws : Nat → Int32} {Mf : Int32} {Mpa Mne : Nat → Int32} (hn : 0 < n) (hn7 : n ≤ 6) (hl : Mpa (n - 1) = nI last) {q : Nat} (hq : Mne (n - 1) = nI q) (h : ∃ k44, wl_X5_goes_44 (nI N) Mdo (nI S) (nI last) (gX (nI N) Mdo Mk post K (nI n) (nI S) (nI last) Mw Mwl Mws Mf Mpa Mne) k44 (nI q)) : wl_X5_goes_20 (nI N) Mdo Mk post (K + 1) (nI n) (nI S) Mw Mwl Mws Mf Mpa Mne := by
  refine gi_f (nI_nle hn (by omega)) ?_
  have e : nI n - 1 = nI (n - 1) := pk_sub (a := n) (b := 1) hn
  have hv : vp_in (nI n - 1) 7 := by rw [e]; exact vp_in_nI (by omega) (by decide)
  refine ⟨hv, gi_r (e' := nI last) (by rw [e, cl9 (by omega), hl]) ⟨hv, gi_r (e' := nI q) (by rw [e, cl9 (by omega), hq]) ?_⟩⟩
  exact h
theorem wr_nil {α : Type} {body : Nat → List α} : ∀ k q, (∀ j, q ≤ j → j < q + k → body j = []) → wr body k q = []
  | 0, _, _ => rfl
  | k + 1, q, h => by
    show body q ++ wr body k (q + 1) = []
    rw [h q (Nat.le_refl q) (by omega), wr_nil k (q + 1) (fun j h1 h2 => h j (by omega) (by omega))]
    rfl
theorem getD_lt {α : Type} {a : List α} {x d : α} {i : Nat} (h : i < a.length) : (a ++ [x]).getD i d = a.getD i d := getD_l h
/-- one way more in the reference's rows -/
theorem mok_add {WL : List (List Nat)} {path : List Nat} {q : Nat} {Mw Mwl Mws Mw2 : Nat → Int32} {Mf : Int32} (h : MOK WL Mw Mwl Mws Mf) (hlt : WL.length < 2000) (hp : path.length ≤ 5) (h1 : ∀ j, j < path.length → Mw2 (6 * WL.length + j) = nI (path.getD j 0)) (h2 : ∀ x, x < 6 * WL.length → Mw2 x = Mw x) : MOK (WL ++ [path ++ [q]]) (upd Mw2 (6 * WL.length + path.length) (nI q)) (upd Mwl WL.length (nI (path.length + 1))) (upd Mws WL.length (nI (wset (path ++ [q])))) (nI (WL.length + 1)) := by
  obtain ⟨m1, m2, m3⟩ := h
  have hl2 : (WL ++ [path ++ [q]]).length = WL.length + 1 := by rw [List.length_append]; rfl
  have hl3 : (path ++ [q]).length = path.length + 1 := by rw [List.length_append]; rfl
  refine ⟨by rw [hl2], by omega, fun i hi => ?_⟩
  rcases Nat.decEq i WL.length with e | e
  · have hi2 : i < WL.length := by omega
    rw [getD_l hi2, upd_n _ _ e, upd_n _ _ e]
    obtain ⟨k1, k2, k3, k4⟩ := m3 i hi2
    refine ⟨k1, k2, k3, fun j hj => ?_⟩
    rw [upd_n _ _ (by omega), h2 _ (by omega)]
    exact k4 j hj
  · subst e
    rw [getD_e, upd_s, upd_s, hl3]
    refine ⟨by omega, rfl, rfl, fun j hj => ?_⟩
    rcases Nat.decEq j path.length with e2 | e2
    · rw [upd_n _ _ (by omega), getD_lt (by omega)]
      exact h1 j (by omega)
    · rw [e2, upd_s, getD_e]
theorem kd_2 {G J p : Nat} (h : ∀ p, G.testBit p = true → J.testBit p = false) : (nI (kd G J p) = 2) ↔ J.testBit p = true := by
  unfold kd
  have := h p
  revert this
  cases G.testBit p <;> cases J.testBit p <;> simp <;> decide
theorem kd_1 {G J p : Nat} : (nI (kd G J p) = 1) ↔ G.testBit p = true := by
  unfold kd
  cases G.testBit p <;> cases J.testBit p <;> simp <;> decide
/-! steps of the reference's walk -/
theorem l44_end {N S last q : Nat} {Mdo : Nat → Int32} {X : Int32 → Prop} (hN : N ≤ q) (hq : q < 2 ^ 31) (h : X (nI q)) : wl_X5_goes_44 (nI N) Mdo (nI S) (nI last) X 1 (nI q) := gi_t (nI_le hN hq) h
theorem ix9 (a b : Nat) : (9 : Int32) * nI a + nI b = nI (9 * a + b) := by rw [show (9 : Int32) = nI 9 from rfl, pk_mul, nI_add]
theorem ix6 (a b : Nat) : (6 : Int32) * nI a + nI b = nI (6 * a + b) := by rw [show (6 : Int32) = nI 6 from rfl, pk_mul, nI_add]
theorem l44_hit {N S last q : Nat} {dS : Nat → Nat} {Mdo : Nat → Int32} (hMdo : ∀ a b, a < 9 → b < 9 → Mdo (9 * a + b) = if (dS a).testBit b then 1 else 0) (hN : N ≤ 9) (hq : q < N) (hl : last < 9) (hS : S < 512) (hd : (dS last).testBit q = true) (hs : S.testBit q = false) {X : Int32 → Prop} (h : X (nI q)) : wl_X5_goes_44 (nI N) Mdo (nI S) (nI last) X 1 (nI q) := by
  unfold wl_X5_goes_44
  refine gi_f (nI_ge hq (by omega)) ?_
  rw [ix9, cl9 (by omega), hMdo last q hl (by omega), pb_shr S hS q (by omega), hd, hs]
  exact ⟨vp_in_nI (by omega) (by decide), gi_f (by decide) (gi_f (by decide) h)⟩
theorem l44_skip {N S last q k : Nat} {dS : Nat → Nat} {Mdo : Nat → Int32} (hMdo : ∀ a b, a < 9 → b < 9 → Mdo (9 * a + b) = if (dS a).testBit b then 1 else 0) (hN : N ≤ 9) (hq : q < N) (hl : last < 9) (hS : S < 512) (hd : ¬ ((dS last).testBit q = true ∧ S.testBit q = false)) {X : Int32 → Prop} (h : wl_X5_goes_44 (nI N) Mdo (nI S) (nI last) X k (nI (q + 1))) : wl_X5_goes_44 (nI N) Mdo (nI S) (nI last) X (k + 1) (nI q) := by
  rw [wl_X5_goes_44]
  refine gi_f (nI_ge hq (by omega)) ?_
  rw [ix9, cl9 (by omega), hMdo last q hl (by omega), pb_shr S hS q (by omega)]
  refine ⟨vp_in_nI (by omega) (by decide), gi_b (fun _ => gi_r (nI_1 q) h) (fun c1 => gi_b1 (fun _ => gi_r (nI_1 q) h) (fun c2 => absurd ⟨c1, c2⟩ hd))⟩
section GXS
variable {N : Nat} {Mdo Mk : Nat → Int32} {post : Int32 → (Nat → Int32) → (Nat → Int32) → (Nat → Int32) → Int32 → (Nat → Int32) → (Nat → Int32) → Prop} {K len S S' last q m : Nat} {Mw Mwl Mws : Nat → Int32} {Mf : Int32} {Mpa Mne : Nat → Int32}
theorem gX_pop (hlen : len < 6) (hl : last < 9) (hq : N ≤ q) (hq9 : q ≤ 9) (hS : nI S &&& (nI (2 ^ last) ^^^ (-1)) = nI S') (h : wl_X5_goes_20 (nI N) Mdo Mk post K (nI len) (nI S') Mw Mwl Mws Mf Mpa (upd Mne len (nI (q + 1)))) : gX (nI N) Mdo Mk post K (nI (len + 1)) (nI S) (nI last) Mw Mwl Mws Mf Mpa Mne (nI q) := by
  unfold gX
  rw [nI_pred, cl9 (show len < 2 ^ 31 by omega), nI_1 q]
  refine ⟨vp_in_nI (by omega) (by decide), gi_n (gi_f (nI_nlt hq (by omega)) (gi_r (pk_m1 len) (gi_r (e' := nI S') ?_ h)))⟩
  rw [pb_one last (by omega)]
  exact hS
theorem gX_full (hlen : len < 6) (hq : q < N) (hN : N ≤ 9) (hk : Mk q = 2) (hf : Mf = 2000) (h : post 0 Mw Mwl Mws Mf Mpa (upd Mne len (nI (q + 1)))) : gX (nI N) Mdo Mk post K (nI (len + 1)) (nI S) (nI last) Mw Mwl Mws Mf Mpa Mne (nI q) := by
  unfold gX
  rw [nI_pred, cl9 (show len < 2 ^ 31 by omega), nI_1 q, cl9 (show q < 2 ^ 31 by omega)]
  exact ⟨vp_in_nI (by omega) (by decide), gi_n (gi_t (nI_lt hq (by omega)) ⟨vp_in_nI (by omega) (by decide), gi_t hk (gi_t hf h)⟩)⟩
theorem gX_five (hlen : len = 4) (hq : q < N) (hN : N ≤ 9) (hk : ¬ Mk q = 2) (h : wl_X5_goes_20 (nI N) Mdo Mk post K (nI (len + 1)) (nI S) Mw Mwl Mws Mf Mpa (upd Mne len (nI (q + 1)))) : gX (nI N) Mdo Mk post K (nI (len + 1)) (nI S) (nI last) Mw Mwl Mws Mf Mpa Mne (nI q) := by
  unfold gX
  rw [nI_pred, cl9 (show len < 2 ^ 31 by omega), nI_1 q, cl9 (show q < 2 ^ 31 by omega)]
  exact ⟨vp_in_nI (by omega) (by decide), gi_n (gi_t (nI_lt hq (by omega)) ⟨vp_in_nI (by omega) (by decide), gi_f hk (gi_t (nI_le (a := 5) (by omega) (by omega)) h)⟩)⟩
theorem gX_push (hlen : len < 4) (hq : q < N) (hN : N ≤ 9) (hk : ¬ Mk q = 2) (hS : nI S ||| nI (2 ^ q) = nI S') (h : wl_X5_goes_20 (nI N) Mdo Mk post K (nI (len + 1 + 1)) (nI S') Mw Mwl Mws Mf (upd Mpa (len + 1) (nI q)) (upd (upd Mne len (nI (q + 1))) (len + 1) 0)) : gX (nI N) Mdo Mk post K (nI (len + 1)) (nI S) (nI last) Mw Mwl Mws Mf Mpa Mne (nI q) := by
  unfold gX
  rw [nI_pred, cl9 (show len < 2 ^ 31 by omega), nI_1 q, cl9 (show q < 2 ^ 31 by omega), cl9 (show len + 1 < 2 ^ 31 by omega)]
  have hv : vp_in (nI (len + 1)) 7 := vp_in_nI (by omega) (by decide)
  refine ⟨vp_in_nI (by omega) (by decide), gi_n (gi_t (nI_lt hq (by omega)) ⟨vp_in_nI (by omega) (by decide), gi_f hk (gi_f (nI_ge (b := 5) (by omega) (by decide)) ⟨hv, gi_n ⟨hv, gi_n (gi_r (nI_1 (len + 1)) (gi_r (e' := nI S') ?_ h))⟩⟩)⟩)⟩
  rw [pb_one q (by omega)]
  exact hS
def cpy (m n : Nat) (Mpa Mw : Nat → Int32) : Nat → Int32 := gfold (fun i (s : Nat → Int32) => upd s (6 * m + i) (Mpa i)) n Mw
theorem cpy_in (m : Nat) (Mpa Mw : Nat → Int32) : ∀ n j, j < n → cpy m n Mpa Mw (6 * m + j) = Mpa j
  | 0, j, h => absurd h (Nat.not_lt_zero j)
  | n + 1, j, h => by
    show upd (cpy m n Mpa Mw) (6 * m + n) (Mpa n) (6 * m + j) = Mpa j
    rcases Nat.decEq j n with e | e
    · rw [upd_n _ _ (by omega)]; exact cpy_in m Mpa Mw n j (by omega)
    · rw [e, upd_s]
theorem cpy_out (m : Nat) (Mpa Mw : Nat → Int32) (x : Nat) (hx : x < 6 * m) : ∀ n, cpy m n Mpa Mw x = Mw x
  | 0 => rfl
  | n + 1 => by
    show upd (cpy m n Mpa Mw) (6 * m + n) (Mpa n) x = Mw x
    rw [upd_n _ _ (by omega)]
    exact cpy_out m Mpa Mw x hx n
theorem gX_jewel (hlen : len < 5) (hq : q < N) (hN : N ≤ 9) (hm : m < 2000) (hk : Mk q = 2) (hS : nI S ||| nI (2 ^ q) = nI S') (h : wl_X5_goes_20 (nI N) Mdo Mk post K (nI (len + 1)) (nI S) (upd (cpy m (len + 1) Mpa Mw) (6 * m + (len + 1)) (nI q)) (upd Mwl m (nI (len + 1 + 1))) (upd Mws m (nI S')) (nI (m + 1)) Mpa (upd Mne len (nI (q + 1)))) : gX (nI N) Mdo Mk post K (nI (len + 1)) (nI S) (nI last) Mw Mwl Mws (nI m) Mpa Mne (nI q) := by
  unfold gX
  rw [nI_pred, cl9 (show len < 2 ^ 31 by omega), nI_1 q, cl9 (show q < 2 ^ 31 by omega)]
  refine ⟨vp_in_nI (by omega) (by decide), gi_n (gi_t (nI_lt hq (by omega)) ⟨vp_in_nI (by omega) (by decide), gi_t hk (gi_f (fun c => absurd ((nI_eq (b := 2000) (by omega) (by decide)).mp c) (by omega)) ?_)⟩)⟩
  refine gl_for0 (Post := fun (s : Nat → Int32) => _) (fun n i (s : Nat → Int32) => wl_X5_goes_147 (nI (len + 1)) (nI m) Mpa _ n (nI i) s) (len + 1) (fun i s => upd s (6 * m + i) (Mpa i)) Mw ?_ (fun n s hp => gi_t (nI_le (Nat.le_refl _) (by omega)) hp) ?_
  · intro n i s hi hn
    refine gi_f (nI_ge hi (by omega)) ?_
    rw [ix6, cl9 (show i < 2 ^ 31 by omega), cl9 (show 6 * m + i < 2 ^ 31 by omega)]
    exact ⟨vp_in_nI (by omega) (by decide), vp_in_nI (by omega) (by decide), gi_n (gi_r (nI_1 i) hn)⟩
  · rw [ix6, cl9 (show m < 2 ^ 31 by omega), cl9 (show 6 * m + (len + 1) < 2 ^ 31 by omega), nI_1 (len + 1), pb_one q (by omega), hS]
    have hv : vp_in (nI m) 2000 := vp_in_nI hm (by decide)
    exact ⟨vp_in_nI (by omega) (by decide), gi_n ⟨hv, gi_n ⟨hv, gi_n (gi_r (nI_1 m) h)⟩⟩⟩
end GXS
def LEVP (N : Nat) (dS : Nat → Nat) (J : Nat) (Mdo Mk : Nat → Int32) (post : Int32 → (Nat → Int32) → (Nat → Int32) → (Nat → Int32) → Int32 → (Nat → Int32) → (Nat → Int32) → Prop) (f : Nat) : Prop := ∀ (pre : List Nat) (last : Nat), pre.length + 1 + f + 1 = 6 → (∀ p ∈ pre ++ [last], p < 9) → last ∉ pre → ∀ (k q : Nat), q + k = 9 → ∀ (WL : List (List Nat)) (Mw Mwl Mws : Nat → Int32) (Mf : Int32) (Mpa Mne : Nat → Int32), MOK WL Mw Mwl Mws Mf → PTH (pre ++ [last]) Mpa →
    (2000 < (WL ++ wr (wbody dS J f last (pre ++ [last])) k q).length → ∀ a b c d e g, post 0 a b c d e g) →
    ((WL ++ wr (wbody dS J f last (pre ++ [last])) k q).length ≤ 2000 → ∀ (Mw' Mwl' Mws' : Nat → Int32) (Mf' : Int32) (Mpa' Mne' : Nat → Int32), MOK (WL ++ wr (wbody dS J f last (pre ++ [last])) k q) Mw' Mwl' Mws' Mf' → (∀ i, i < pre.length → Mpa' i = Mpa i ∧ Mne' i = Mne i) → ∃ K, wl_X5_goes_20 (nI N) Mdo Mk post K (nI pre.length) (nI (wset pre)) Mw' Mwl' Mws' Mf' Mpa' Mne') →
    ∃ K k44, wl_X5_goes_44 (nI N) Mdo (nI (wset (pre ++ [last]))) (nI last) (gX (nI N) Mdo Mk post K (nI (pre.length + 1)) (nI (wset (pre ++ [last]))) (nI last) Mw Mwl Mws Mf Mpa Mne) k44 (nI q)
theorem lev_step {N : Nat} {dS : Nat → Nat} {G J : Nat} {Mdo Mk : Nat → Int32} {post : Int32 → (Nat → Int32) → (Nat → Int32) → (Nat → Int32) → Int32 → (Nat → Int32) → (Nat → Int32) → Prop} (hN : N ≤ 9) (hdS : ∀ a, dS a < 2 ^ N) (hMdo : ∀ a b, a < 9 → b < 9 → Mdo (9 * a + b) = if (dS a).testBit b then 1 else 0) (hGJ : ∀ p, G.testBit p = true → J.testBit p = false) (hMk : ∀ p, p < 9 → Mk p = nI (kd G J p)) (f : Nat) (hrec : ∀ f', f = f' + 1 → LEVP N dS J Mdo Mk post f') : LEVP N dS J Mdo Mk post f := by
  have h512 := pow2N hN
  intro pre last hlen hp hlp k
  have hl9 : last < 9 := hp last (List.mem_append_right _ (List.mem_singleton.mpr rfl))
  have hws := wset_lt hp
  have hplen : (pre ++ [last]).length = pre.length + 1 := by rw [List.length_append]; rfl
  have hclr : nI (wset (pre ++ [last])) &&& (nI (2 ^ last) ^^^ (-1)) = nI (wset pre) := by
    rw [show nI (wset (pre ++ [last])) &&& (nI (2 ^ last) ^^^ (-1)) = nI (clr (wset (pre ++ [last])) last) from nI_wo hws (pow9 hl9)]
    congr 1
    apply Nat.eq_of_testBit_eq
    intro i
    rw [tb_clr hws, wset_app, tb_set, tb_wset]
    rcases Nat.decEq last i with e | e
    · rw [decide_eq_false e]; simp
    · subst e
      rw [decide_eq_true rfl, decide_eq_false hlp]; rfl
  have hout : ∀ j, N ≤ j → wbody dS J f last (pre ++ [last]) j = [] := by
    intro j hj
    unfold wbody
    refine if_neg (fun c => ?_)
    have := lt_N (hdS last) c.1
    omega
  have pop : ∀ k q, q + k = 9 → N ≤ q → ∀ (WL : List (List Nat)) (Mw Mwl Mws : Nat → Int32) (Mf : Int32) (Mpa Mne : Nat → Int32), MOK WL Mw Mwl Mws Mf → ((WL ++ wr (wbody dS J f last (pre ++ [last])) k q).length ≤ 2000 → ∀ (Mw' Mwl' Mws' : Nat → Int32) (Mf' : Int32) (Mpa' Mne' : Nat → Int32), MOK (WL ++ wr (wbody dS J f last (pre ++ [last])) k q) Mw' Mwl' Mws' Mf' → (∀ i, i < pre.length → Mpa' i = Mpa i ∧ Mne' i = Mne i) → ∃ K, wl_X5_goes_20 (nI N) Mdo Mk post K (nI pre.length) (nI (wset pre)) Mw' Mwl' Mws' Mf' Mpa' Mne') → ∃ K k44, wl_X5_goes_44 (nI N) Mdo (nI (wset (pre ++ [last]))) (nI last) (gX (nI N) Mdo Mk post K (nI (pre.length + 1)) (nI (wset (pre ++ [last]))) (nI last) Mw Mwl Mws Mf Mpa Mne) k44 (nI q) := by
    intro k q hq hqN WL Mw Mwl Mws Mf Mpa Mne hM hc
    rw [wr_nil k q (fun j h1 _ => hout j (by omega)), List.append_nil] at hc
    obtain ⟨K, hK⟩ := hc hM.2.1 Mw Mwl Mws Mf Mpa (upd Mne pre.length (nI (q + 1))) hM (fun i hi => ⟨rfl, upd_n _ _ (by omega)⟩)
    exact ⟨K, 1, l44_end hqN (by omega) (gX_pop (by omega) hl9 hqN (by omega) hclr hK)⟩
  induction k with
  | zero =>
    intro q hq WL Mw Mwl Mws Mf Mpa Mne hM hPth hfail hcont
    exact pop 0 q hq (by omega) WL Mw Mwl Mws Mf Mpa Mne hM hcont
  | succ k ihk =>
    intro q hq WL Mw Mwl Mws Mf Mpa Mne hM hPth hfail hcont
    rcases Nat.lt_or_ge q N with hqN | hqN
    · have hq9 : q < 9 := by omega
      have hwr : wr (wbody dS J f last (pre ++ [last])) (k + 1) q = wbody dS J f last (pre ++ [last]) q ++ wr (wbody dS J f last (pre ++ [last])) k (q + 1) := rfl
      rw [hwr] at hfail hcont
      rcases Decidable.em ((dS last).testBit q = true ∧ (wset (pre ++ [last])).testBit q = false) with c | c
      · have hnp : q ∉ pre ++ [last] := by
          intro hm
          have h1 := c.2
          rw [tb_wset, decide_eq_true hm] at h1
          exact absurd h1 (by decide)
        have hp2 := mem9 hp hq9
        have eset : nI (wset (pre ++ [last])) ||| nI (2 ^ q) = nI (wset (pre ++ [last] ++ [q])) := by rw [fa_or, wset_app _ q]
        have hlast : Mpa pre.length = nI last := by
          have h1 := hPth pre.length (by omega)
          rw [getD_e] at h1
          exact h1
        -- the next place of this level, with more ways and other rows behind
        have next : ∀ (X : List (List Nat)) (Mw2 Mwl2 Mws2 : Nat → Int32) (Mf2 : Int32) (Mpa2 Mne2 : Nat → Int32), wbody dS J f last (pre ++ [last]) q = X → MOK (WL ++ X) Mw2 Mwl2 Mws2 Mf2 → (∀ i, i < pre.length + 1 → Mpa2 i = Mpa i) → (∀ i, i < pre.length → Mne2 i = Mne i) → Mne2 pre.length = nI (q + 1) → ∃ K, wl_X5_goes_20 (nI N) Mdo Mk post K (nI (pre.length + 1)) (nI (wset (pre ++ [last]))) Mw2 Mwl2 Mws2 Mf2 Mpa2 Mne2 := by
          intro X Mw2 Mwl2 Mws2 Mf2 Mpa2 Mne2 eX hM2 hPa hNe hNq
          rw [eX] at hfail hcont
          rw [← List.append_assoc] at hfail hcont
          obtain ⟨K, k44, hK⟩ := ihk (q + 1) (by omega) (WL ++ X) Mw2 Mwl2 Mws2 Mf2 Mpa2 Mne2 hM2 (fun i hi => by rw [hPa i (by omega)]; exact hPth i hi) hfail (fun hle a b c d e g hMM hag => hcont hle a b c d e g hMM (fun i hi => ⟨(hag i hi).1.trans (hPa i (by omega)), (hag i hi).2.trans (hNe i hi)⟩))
          exact ⟨K + 1, goes_unf (by omega) (by omega) (by rw [show pre.length + 1 - 1 = pre.length from by omega, hPa _ (by omega)]; exact hlast) (by rw [show pre.length + 1 - 1 = pre.length from by omega]; exact hNq) ⟨k44, hK⟩⟩
        have hNe1 : ∀ i, i < pre.length → upd Mne pre.length (nI (q + 1)) i = Mne i := fun i hi => upd_n _ _ (by omega)
        rcases Decidable.em (J.testBit q = true) with hj | hj
        · have hk2 : Mk q = 2 := by rw [hMk q hq9]; exact (kd_2 hGJ).mpr hj
          have eX : wbody dS J f last (pre ++ [last]) q = [pre ++ [last] ++ [q]] := by
            unfold wbody
            rw [if_pos ⟨c.1, hnp⟩, if_pos hj]
          rcases Nat.lt_or_ge WL.length 2000 with hlt | hge
          · have hMf := hM.1
            subst hMf
            have hM3 := mok_add (q := q) (Mw2 := cpy WL.length (pre.length + 1) Mpa Mw) hM hlt (path := pre ++ [last]) (by omega) (fun j hj => by rw [cpy_in _ _ _ _ _ (by omega)]; exact hPth j hj) (fun x hx => cpy_out _ _ _ x hx _)
            rw [hplen] at hM3
            obtain ⟨K, hK⟩ := next _ _ _ _ _ Mpa (upd Mne pre.length (nI (q + 1))) eX hM3 (fun _ _ => rfl) hNe1 (upd_s _ _ _)
            exact ⟨K, 1, l44_hit hMdo hN hqN hl9 hws c.1 c.2 (gX_jewel (by omega) hqN hN hlt hk2 eset hK)⟩
          · refine ⟨0, 1, l44_hit hMdo hN hqN hl9 hws c.1 c.2 (gX_full (by omega) hqN hN hk2 ?_ (hfail ?_ _ _ _ _ _ _))⟩
            · rw [hM.1]
              have := hM.2.1
              rw [show WL.length = 2000 from by omega]
              rfl
            · rw [eX, List.length_append, List.length_append]
              show 2000 < WL.length + (1 + _)
              omega
        · have hk2 : ¬ Mk q = 2 := by rw [hMk q hq9]; exact fun h => hj ((kd_2 hGJ).mp h)
          have eX : wbody dS J f last (pre ++ [last]) q = wg dS J f q (pre ++ [last] ++ [q]) := by
            unfold wbody
            rw [if_pos ⟨c.1, hnp⟩, if_neg hj]
          cases f with
          | zero =>
            have eX2 : wbody dS J 0 last (pre ++ [last]) q = [] := eX
            obtain ⟨K, hK⟩ := next [] Mw Mwl Mws Mf Mpa (upd Mne pre.length (nI (q + 1))) eX2 (by rw [List.append_nil]; exact hM) (fun _ _ => rfl) hNe1 (upd_s _ _ _)
            exact ⟨K, 1, l44_hit hMdo hN hqN hl9 hws c.1 c.2 (gX_five (by omega) hqN hN hk2 hK)⟩
          | succ f' =>
            rw [wg_succ] at eX
            have hPth2 : PTH (pre ++ [last] ++ [q]) (upd Mpa (pre.length + 1) (nI q)) := by
              intro i hi
              rw [List.length_append] at hi
              have hi2 : i < (pre ++ [last]).length + 1 := hi
              rcases Nat.decEq i (pre.length + 1) with e | e
              · rw [upd_n _ _ e, getD_lt (by omega)]
                exact hPth i (by omega)
              · rw [e, upd_s, ← hplen, getD_e]
            have hfail0 := hfail
            rw [eX] at hfail0
            obtain ⟨K, k44, hK⟩ := hrec f' rfl (pre ++ [last]) q (by omega) hp2 hnp 9 0 rfl WL Mw Mwl Mws Mf (upd Mpa (pre.length + 1) (nI q)) (upd (upd Mne pre.length (nI (q + 1))) (pre.length + 1) 0) hM hPth2
              (fun hbig => hfail0 (by rw [← List.append_assoc, List.length_append]; omega))
              (fun hle Mw' Mwl' Mws' Mf' Mpa' Mne' hMM hag => by
                rw [hplen] at hag ⊢
                refine next _ Mw' Mwl' Mws' Mf' Mpa' Mne' eX hMM (fun i hi => ?_) (fun i hi => ?_) ?_
                · rw [(hag i hi).1, upd_n _ _ (by omega)]
                · rw [(hag i (by omega)).2, upd_n _ _ (by omega), upd_n _ _ (by omega)]
                · rw [(hag pre.length (by omega)).2, upd_n _ _ (by omega), upd_s])
            rw [hplen] at hK
            refine ⟨K + 1, 1, l44_hit hMdo hN hqN hl9 hws c.1 c.2 (gX_push (by omega) hqN hN hk2 eset (goes_unf (by omega) (by omega) ?_ ?_ ⟨k44, hK⟩))⟩
            · rw [show pre.length + 1 + 1 - 1 = pre.length + 1 from by omega, upd_s]
            · rw [show pre.length + 1 + 1 - 1 = pre.length + 1 from by omega, upd_s]
              rfl
      · have eX : wbody dS J f last (pre ++ [last]) q = [] := by
          unfold wbody
          refine if_neg (fun d => c ⟨d.1, ?_⟩)
          rw [tb_wset]
          exact decide_eq_false d.2
        rw [eX, List.nil_append] at hfail hcont
        obtain ⟨K, k44, hK⟩ := ihk (q + 1) (by omega) WL Mw Mwl Mws Mf Mpa Mne hM hPth hfail hcont
        exact ⟨K, k44 + 1, l44_skip hMdo hN hqN hl9 hws c hK⟩
    · exact pop (k + 1) q hq hqN WL Mw Mwl Mws Mf Mpa Mne hM hcont
theorem lev_sp {N : Nat} {dS : Nat → Nat} {G J : Nat} {Mdo Mk : Nat → Int32} {post : Int32 → (Nat → Int32) → (Nat → Int32) → (Nat → Int32) → Int32 → (Nat → Int32) → (Nat → Int32) → Prop} (hN : N ≤ 9) (hdS : ∀ a, dS a < 2 ^ N) (hMdo : ∀ a b, a < 9 → b < 9 → Mdo (9 * a + b) = if (dS a).testBit b then 1 else 0) (hGJ : ∀ p, G.testBit p = true → J.testBit p = false) (hMk : ∀ p, p < 9 → Mk p = nI (kd G J p)) : ∀ f, LEVP N dS J Mdo Mk post f
  | 0 => lev_step hN hdS hMdo hGJ hMk 0 (fun f' e => absurd e (by omega))
  | f + 1 => lev_step hN hdS hMdo hGJ hMk (f + 1) (fun f' e => by
      have e2 : f' = f := by omega
      rw [e2]
      exact lev_sp hN hdS hMdo hGJ hMk f)
theorem goes_sp {N : Nat} {dS : Nat → Nat} {G J g : Nat} {Mdo Mk : Nat → Int32} {post : Int32 → (Nat → Int32) → (Nat → Int32) → (Nat → Int32) → Int32 → (Nat → Int32) → (Nat → Int32) → Prop} (hN : N ≤ 9) (hdS : ∀ a, dS a < 2 ^ N) (hMdo : ∀ a b, a < 9 → b < 9 → Mdo (9 * a + b) = if (dS a).testBit b then 1 else 0) (hGJ : ∀ p, G.testBit p = true → J.testBit p = false) (hMk : ∀ p, p < 9 → Mk p = nI (kd G J p)) (hg : g < 9) {WL : List (List Nat)} {Mw Mwl Mws : Nat → Int32} {Mf : Int32} {Mpa Mne : Nat → Int32} (hM : MOK WL Mw Mwl Mws Mf) (hfail : 2000 < (WL ++ wg dS J 5 g [g]).length → ∀ a b c d e g, post 0 a b c d e g) (hcont : (WL ++ wg dS J 5 g [g]).length ≤ 2000 → ∀ (Mw' Mwl' Mws' : Nat → Int32) (Mf' : Int32) (Mpa' Mne' : Nat → Int32), MOK (WL ++ wg dS J 5 g [g]) Mw' Mwl' Mws' Mf' → post 1 Mw' Mwl' Mws' Mf' Mpa' Mne') : wp_X5_goes (nI g) (nI N) Mdo Mk Mw Mwl Mws Mf Mpa Mne post := by
  have e1 : (1 : Int32) <<< (nI g &&& 31) = nI (wset [g]) := by
    rw [pb_one g (by omega)]
    show nI (2 ^ g) = nI (2 ^ g ||| 0)
    rw [Nat.or_zero]
  have hv : vp_in 0 7 := vp_in_nI (n := 0) (by decide) (by decide)
  rw [wg_succ] at hfail hcont
  refine gi_r e1 ⟨hv, gi_n ⟨hv, gi_n ?_⟩⟩
  obtain ⟨K, k44, hK⟩ := lev_sp (post := post) hN hdS hMdo hGJ hMk 4 [] g rfl (fun p hp => by rw [List.mem_singleton.mp hp]; exact hg) List.not_mem_nil 9 0 rfl WL Mw Mwl Mws Mf (upd Mpa 0 (nI g)) (upd Mne 0 0) hM (fun i hi => by
      have e : i = 0 := by
        have : i < 1 := hi
        omega
      rw [e, upd_s]
      rfl) hfail (fun hle a b c d e f hMM _ => ⟨1, gi_t (by decide) (hcont hle a b c d e f hMM)⟩)
  exact ⟨K + 1, goes_unf (n := 1) (q := 0) (by decide) (by decide) (upd_s _ _ _) (upd_s _ _ _) ⟨k44, hK⟩⟩
theorem finds_sp {N : Nat} {dS : Nat → Nat} {G J : Nat} {Mdo Mk : Nat → Int32} {post : Int32 → (Nat → Int32) → (Nat → Int32) → (Nat → Int32) → Int32 → (Nat → Int32) → (Nat → Int32) → Prop} (hN : N ≤ 9) (hG : G < 2 ^ N) (hdS : ∀ a, dS a < 2 ^ N) (hMdo : ∀ a b, a < 9 → b < 9 → Mdo (9 * a + b) = if (dS a).testBit b then 1 else 0) (hGJ : ∀ p, G.testBit p = true → J.testBit p = false) (hMk : ∀ p, p < 9 → Mk p = nI (kd G J p)) {Mw Mwl Mws : Nat → Int32} {Mf : Int32} {Mpa Mne : Nat → Int32} (h0 : 2000 < (ways dS G J).length → ∀ a b c d e g, post 0 a b c d e g) (h1 : (ways dS G J).length ≤ 2000 → ∀ (Mw' Mwl' Mws' : Nat → Int32) (Mf' : Int32) (Mpa' Mne' : Nat → Int32), MOK (ways dS G J) Mw' Mwl' Mws' Mf' → post 1 Mw' Mwl' Mws' Mf' Mpa' Mne') : wp_X5_finds (nI N) Mdo Mk Mw Mwl Mws Mf Mpa Mne post := by
  have loop : ∀ (k q : Nat), q + k = 9 → ∀ (WL : List (List Nat)) (Mw Mwl Mws : Nat → Int32) (Mf : Int32) (Mpa Mne : Nat → Int32), MOK WL Mw Mwl Mws Mf → (2000 < (WL ++ wr (wgate dS G J) k q).length → ∀ a b c d e g, post 0 a b c d e g) → ((WL ++ wr (wgate dS G J) k q).length ≤ 2000 → ∀ (Mw' Mwl' Mws' : Nat → Int32) (Mf' : Int32) (Mpa' Mne' : Nat → Int32), MOK (WL ++ wr (wgate dS G J) k q) Mw' Mwl' Mws' Mf' → post 1 Mw' Mwl' Mws' Mf' Mpa' Mne') → wl_X5_finds_7 (nI N) Mdo Mk post (k + 1) (nI q) Mw Mwl Mws Mf Mpa Mne := by
    have hend : ∀ k q, N ≤ q → wr (wgate dS G J) k q = [] := by
      intro k q hq
      refine wr_nil k q (fun j h1 _ => ?_)
      unfold wgate
      refine if_neg (fun c => ?_)
      have := lt_N hG c
      omega
    intro k
    induction k with
    | zero =>
      intro q hq WL Mw Mwl Mws Mf Mpa Mne hM hf hc
      rw [hend 0 q (by omega), List.append_nil] at hc
      exact gi_t (nI_le (by omega) (by omega)) (hc hM.2.1 _ _ _ _ _ _ hM)
    | succ k ih =>
      intro q hq WL Mw Mwl Mws Mf Mpa Mne hM hf hc
      rcases Nat.lt_or_ge q N with hqN | hqN
      · refine gi_f (nI_ge hqN (by omega)) ⟨vp_in_nI (by omega) (by decide), ?_⟩
        rw [cl9 (by omega), hMk q (by omega)]
        have hwr : wr (wgate dS G J) (k + 1) q = wgate dS G J q ++ wr (wgate dS G J) k (q + 1) := rfl
        rw [hwr] at hf hc
        rcases Decidable.em (G.testBit q = true) with c | c
        · have eX : wgate dS G J q = wg dS J 5 q [q] := by
            unfold wgate
            rw [if_pos c]
          rw [eX, ← List.append_assoc] at hf hc
          refine gi_t (kd_1.mpr c) (goes_sp hN hdS hMdo hGJ hMk (by omega) hM (fun hbig a b c d e g => gi_t rfl (hf (by rw [List.length_append]; omega) a b c d e g)) (fun hle Mw' Mwl' Mws' Mf' Mpa' Mne' hMM => gi_f (by decide) (gi_r (nI_1 q) (ih (q + 1) (by omega) _ _ _ _ _ _ _ hMM hf hc))))
        · have eX : wgate dS G J q = [] := by
            unfold wgate
            rw [if_neg c]
          rw [eX, List.nil_append] at hf hc
          exact gi_f (fun h => c (kd_1.mp h)) (gi_r (nI_1 q) (ih (q + 1) (by omega) WL Mw Mwl Mws Mf Mpa Mne hM hf hc))
      · rw [hend (k + 1) q hqN, List.append_nil] at hc
        exact gi_t (nI_le hqN (by omega)) (hc hM.2.1 _ _ _ _ _ _ hM)
  unfold ways at h0 h1
  have hM0 : MOK [] Mw Mwl Mws 0 := ⟨rfl, by decide, fun i hi => absurd hi (Nat.not_lt_zero i)⟩
  have key := loop 9 0 rfl [] Mw Mwl Mws 0 Mpa Mne hM0 (by rw [List.nil_append]; exact h0) (by rw [List.nil_append]; exact h1)
  exact ⟨9 + 1, key⟩
