/-! Words of mine: named values, branches, booleans, the nest's links, worlds with a frame, methods and calls in one row each. -/
def gq_nm {α : Sort _} (e : α) (k : α → Prop) : Prop := k e
theorem gq_at1 {α : Sort _} {e y : α} {k : α → Prop} (h : gq_nm e k) (hy : y = e) : k y := by subst hy; exact h
theorem gq_t {c A B : Prop} [Decidable c] (h : c) (w : if c then A else B) : A := by rw [if_pos h] at w; exact w
theorem gq_f {c A B : Prop} [Decidable c] (h : ¬ c) (w : if c then A else B) : B := by rw [if_neg h] at w; exact w
def gq_zb (v : Int32) : Prop := v = 0 ∨ v = 1
theorem gq_zbn {v : Int32} (h : gq_zb v) : narrow .boolean (.int v) = .int v := by rcases h with rfl | rfl <;> rfl
theorem gq_zb0 : gq_zb 0 := Or.inl rfl
theorem gq_zb1 : gq_zb 1 := Or.inr rfl
/-- the links between nest mates -/
def gq_nest : List Cond := [.methodLinkNest RX4 11 yX0_init RX4, .methodLinkNest RX4 18 yX3_init RX4, .methodLinkNest RX4 25 yX1_init RX4, .methodLinkNest RX4 32 yX2_init RX4,
  .methodLinkNest RX0 38 yX4_has RX4, .methodLinkNest RX0 46 yX4_setOf RX4, .methodLinkNest RX1 38 yX4_placeInRow RX4, .methodLinkNest RX2 40 yX4_setOf RX4, .methodLinkNest RX3 38 yX4_has RX4, .methodLinkNest RX3 42 yX4_withPlace RX4, .methodLinkNest RX3 46 yX4_setOf RX4, .methodLinkNest RX1 34 yX4_has RX4, .methodLinkNest RX2 44 yX4_has RX4, .methodLinkNest RX2 52 yX4_placeOn RX4]
def gq_isNest : Cond → Bool
  | .methodLinkNest _ _ _ _ => true
  | _ => false
theorem gq_nest_all : gq_nest.all gq_isNest = true := rfl
theorem gq_nest_form {w : Cond} (h : w ∈ gq_nest) : ∃ a i x b, w = .methodLinkNest a i x b := by
  have h1 := List.all_eq_true.mp gq_nest_all w h
  cases w <;> first | exact ⟨_, _, _, _, rfl⟩ | (simp [gq_isNest] at h1)
def gq_nw (U : State) : Prop := ∀ w ∈ gq_nest, va_Nw w U
theorem gq_nw.warm {s U : State} (hW : s.WarmedH U.vm) (h : gq_nw s) : gq_nw U := by
  intro w hw
  obtain ⟨a, i, x, b, rfl⟩ := gq_nest_form hw
  exact va_Nw.warmM hW (h _ hw)
theorem gq_nw.same {s U : State} (e : s.vm = U.vm) (h : gq_nw s) : gq_nw U := by
  intro w hw
  obtain ⟨a, i, x, b, rfl⟩ := gq_nest_form hw
  exact va_Nw.same rfl e (h _ hw)
def gq_pre (D : va_G) (tys : List (ClassId × FieldType)) (ws : va_W) (sz : Nat) : State → Prop := fun U => U.heap.size = sz ∧ va_P D vwCl ws U.heap ∧ va_K D vwCl tys U ∧ va_D (fun _ => True) ws ∧ gq_nw U
def gq_at {S : Type} (D : va_G) (A : Nat → Prop) (wsN : S → va_W) : S → State → Prop := fun u t => va_P D vwCl (wsN u) t.heap ∧ va_D A (wsN u)
theorem gq_blind (av : List Value) (D : va_G) (tys : List (ClassId × FieldType)) (ws : va_W) (sz : Nat) : FrameBlind (va_Pc av (gq_pre D tys ws sz)) := fun a U g mk q => by
  obtain ⟨q0, q1, qP, qK, qD, qN⟩ := q
  exact ⟨q0, q1, qP, va_K.moved (u := U) (U := U.calling g mk a) (Vm.Alike.refl U.vm) qK, qD, gq_nw.same (s := U) (U := U.calling g mk a) rfl qN⟩
theorem gq_fm {α : Type} {f : Nat → Option α} : ∀ {is : List Nat} {l : List α}, is.map f = l.map some → is.filterMap f = l
  | [], [], _ => rfl
  | [], _ :: _, h => by simp at h
  | _ :: _, [], h => by simp at h
  | i :: is, x :: l, h => by
    simp only [List.map_cons, List.cons.injEq] at h
    rw [List.filterMap_cons, h.1]
    simp only []
    rw [gq_fm h.2]
theorem gq_toPre {s : State} {H : Heap} {D : va_G} {tys tysC : List (ClassId × FieldType)} {ws wc : va_W} {A : Nat → Prop} (hK : va_K D vwCl tys s) (isK : List Nat) (hKs : isK.filterMap (fun i => tys[i]?) = tysC) (hP : va_P D vwCl ws H) (hD : va_D A ws) (isC : List Nat) (hCn : va_nd isC = true) (hC : isC.map (fun i => ws[i]?) = wc.map some) (hN : gq_nw s) (av : List Value) :
    ∀ U : State, U.heap = H → s.WarmedH U.vm → va_Pc av (gq_pre D tysC wc H.size) av.toArray U := fun U hU hW =>
  ⟨rfl, by rw [hU], by rw [hU]; exact hP.sub isC (gq_fm hC), va_K.moved hW.alike (hK.sub isK hKs), (hD.sub isC hCn hC).weaken (fun _ _ _ _ => trivial), gq_nw.warm hW hN⟩
theorem gq_preS {s : State} {H : Heap} {D : va_G} {tys tysC : List (ClassId × FieldType)} {ws wc : va_W} {A : Nat → Prop} (hK : va_K D vwCl tys s) (isK : List Nat) (hKs : isK.filterMap (fun i => tys[i]?) = tysC) (hP : va_P D vwCl ws H) (hD : va_D A ws) (isC : List Nat) (hCn : va_nd isC = true) (hC : isC.map (fun i => ws[i]?) = wc.map some) (hN : gq_nw s) {As : List Value} :
    PreS s H (va_Pc As (gq_pre D tysC wc H.size)) As := ⟨gq_blind _ _ _ _ _, gq_toPre hK isK hKs hP hD isC hCn hC hN As⟩
theorem gq_preV {s : State} {H : Heap} {D : va_G} {tys tysC : List (ClassId × FieldType)} {ws wc : va_W} {A : Nat → Prop} (hK : va_K D vwCl tys s) (isK : List Nat) (hKs : isK.filterMap (fun i => tys[i]?) = tysC) (hP : va_P D vwCl ws H) (hD : va_D A ws) (isC : List Nat) (hCn : va_nd isC = true) (hC : isC.map (fun i => ws[i]?) = wc.map some) (hN : gq_nw s) {As : List Value} (ci q0 : Nat) {C : String} {T : u_T} {N : Nat} {fs : List Value} {b : Nat} (hcl : vwCl[ci]? = some (C, T, N)) (he : wc[q0]? = some (b, .inr (ci, fs))) :
    PreV s H C b (va_Pc (.ref b :: As) (gq_pre D tysC wc H.size)) As := ⟨gq_blind _ _ _ _ _, va_recv (hK.sub isK hKs) (hP.sub isC (gq_fm hC)) hcl he, gq_toPre hK isK hKs hP hD isC hCn hC hN (.ref b :: As)⟩
section GQ
variable {p : Program} {l : Launch} {e : Env} {R : Room} {s : State} {m : MethodId} {args : Array Value} {below : List Frame} {meth : Method} {c : Code} {H H0 : Heap} {locs : List Loc} {cells slots : Nat} {Q : State → Prop} {pc : Nat} {ls : Array Slot} {rest st0 : List Value} {A : Nat → Prop} {D : va_G} {ws wc : va_W} {a : Array Value}
theorem gq_back {S : Type} {w1 wsN : S → va_W} {u : S} {t : State} {H1 : Heap} (hP : va_P D vwCl ws H) (hD : va_D A ws) (isC isR : List Nat) (hC : isC.map (fun i => ws[i]?) = wc.map some) (hR : isR.map (fun i => ws[i]?) = (isR.filterMap (fun i => ws[i]?)).map some) (hn : va_nd isR = true) (hdis : ∀ i ∈ isR, i ∉ isC) (pm : List Nat) (hpn : va_nd pm = true) (hpm : ∀ u, pm.map (fun i => ((isR.filterMap (fun i => ws[i]?)) ++ w1 u)[i]?) = (wsN u).map some)
    (hF : ∀ q, va_A wc H.size q → A q) (ht : t.heap = H1) (hB : gq_at D (va_A wc H.size) w1 u t) (hk : ∀ q : Nat, q < H.size → ¬ va_A wc H.size q → H1[q]? = H[q]?) : va_P D vwCl (wsN u) H1 ∧ va_D A (wsN u) := by
  obtain ⟨hP1, hD1⟩ := hB
  rw [ht] at hP1
  obtain ⟨hP2, hD2⟩ := va_join hP hD isC isR hC hR hn hdis hk hF hP1 hD1
  exact ⟨hP2.sub pm (gq_fm (hpm u)), hD2.sub pm hpn (hpm u)⟩
theorem gq_calli {S : Type} {post : Int32 → S → Prop} {w1 wsN : S → va_W} (hr : va_Run p l e R s m args below meth c H locs cells slots 0 0 (F0 m pc ls st0) rest (va_Qi post (gq_at D (va_A wc H.size) w1) (va_A wc H.size) a) (va_A wc H.size)) (hP : va_P D vwCl ws H) (hD : va_D A ws) (hS : va_S A H0 H locs) (hA : ∀ q, H0.size ≤ q → A q) (isC isR : List Nat) (hC : isC.map (fun i => ws[i]?) = wc.map some) (hR : isR.map (fun i => ws[i]?) = (isR.filterMap (fun i => ws[i]?)).map some) (hn : va_nd isR = true) (hdis : ∀ i ∈ isR, i ∉ isC) (pm : List Nat) (hpn : va_nd pm = true) (hpm : ∀ u, pm.map (fun i => ((isR.filterMap (fun i => ws[i]?)) ++ w1 u)[i]?) = (wsN u).map some)
    (kk : ∀ (r : Int32) (u : S) (H1 : Heap) (locs1 : List Loc), post r u → va_P D vwCl (wsN u) H1 → va_D A (wsN u) → va_S A H0 H1 locs1 → W p l e R s m args below meth c H1 locs1 cells slots Q (F0 m (pc + 3) ls (.int r :: rest))) : W p l e R s m args below meth c H locs cells slots Q (F0 m pc ls st0) := by
  have hF := va_free (wc := wc) hD hS hA isC hC
  refine va_calli hr hS (fun q _ h => hF q h) hF (fun r u t H1 locs1 ht hvm hw hB hz1 hk1 hS1 => ?_)
  obtain ⟨hP2, hD2⟩ := gq_back hP hD isC isR hC hR hn hdis pm hpn hpm hF ht hB hk1
  exact kk r u H1 locs1 hw hP2 hD2 hS1
theorem gq_callv {S : Type} {post : S → Prop} {w1 wsN : S → va_W} (hr : va_Run p l e R s m args below meth c H locs cells slots 0 0 (F0 m pc ls st0) rest (va_Qv post (gq_at D (va_A wc H.size) w1) (va_A wc H.size) a) (va_A wc H.size)) (hP : va_P D vwCl ws H) (hD : va_D A ws) (hS : va_S A H0 H locs) (hA : ∀ q, H0.size ≤ q → A q) (isC isR : List Nat) (hC : isC.map (fun i => ws[i]?) = wc.map some) (hR : isR.map (fun i => ws[i]?) = (isR.filterMap (fun i => ws[i]?)).map some) (hn : va_nd isR = true) (hdis : ∀ i ∈ isR, i ∉ isC) (pm : List Nat) (hpn : va_nd pm = true) (hpm : ∀ u, pm.map (fun i => ((isR.filterMap (fun i => ws[i]?)) ++ w1 u)[i]?) = (wsN u).map some)
    (kk : ∀ (u : S) (H1 : Heap) (locs1 : List Loc), post u → va_P D vwCl (wsN u) H1 → va_D A (wsN u) → va_S A H0 H1 locs1 → W p l e R s m args below meth c H1 locs1 cells slots Q (F0 m (pc + 3) ls rest)) : W p l e R s m args below meth c H locs cells slots Q (F0 m pc ls st0) := by
  have hF := va_free (wc := wc) hD hS hA isC hC
  refine va_callv hr hS (fun q _ h => hF q h) hF (fun u t H1 locs1 ht hvm hw hB hz1 hk1 hS1 => ?_)
  obtain ⟨hP2, hD2⟩ := gq_back hP hD isC isR hC hR hn hdis pm hpn hpm hF ht hB hk1
  exact kk u H1 locs1 hw hP2 hD2 hS1
theorem gq_callr {S : Type} {post : S → Prop} {b0 : Nat} {w1 wsN : S → va_W} (hr : va_Run p l e R s m args below meth c H locs cells slots 0 0 (F0 m pc ls st0) rest (va_Qr post (fun u b t => b = b0 ∧ gq_at D (va_A wc H.size) w1 u t) (va_A wc H.size) a) (va_A wc H.size)) (hP : va_P D vwCl ws H) (hD : va_D A ws) (hS : va_S A H0 H locs) (hA : ∀ q, H0.size ≤ q → A q) (isC isR : List Nat) (hC : isC.map (fun i => ws[i]?) = wc.map some) (hR : isR.map (fun i => ws[i]?) = (isR.filterMap (fun i => ws[i]?)).map some) (hn : va_nd isR = true) (hdis : ∀ i ∈ isR, i ∉ isC) (pm : List Nat) (hpn : va_nd pm = true) (hpm : ∀ u, pm.map (fun i => ((isR.filterMap (fun i => ws[i]?)) ++ w1 u)[i]?) = (wsN u).map some)
    (kk : ∀ (u : S) (H1 : Heap) (locs1 : List Loc), post u → va_P D vwCl (wsN u) H1 → va_D A (wsN u) → va_S A H0 H1 locs1 → W p l e R s m args below meth c H1 locs1 cells slots Q (F0 m (pc + 3) ls (.ref b0 :: rest))) : W p l e R s m args below meth c H locs cells slots Q (F0 m pc ls st0) := by
  have hF := va_free (wc := wc) hD hS hA isC hC
  refine va_callr hr hS (fun q _ h => hF q h) hF (fun u ra t H1 locs1 ht hvm hw hB hz1 hk1 hS1 => ?_)
  obtain ⟨rfl, hB⟩ := hB
  obtain ⟨hP2, hD2⟩ := gq_back hP hD isC isR hC hR hn hdis pm hpn hpm hF ht hB hk1
  exact kk u H1 locs1 hw hP2 hD2 hS1
end GQ
theorem gq_meti {l : Launch} {y : MethodName} {ws ws' : List Cond} {rm : Room} {cc : ByteArray} {maxL : Nat} {D : va_G} {tys : List (ClassId × FieldType)} {wd : va_W} {sz : Nat} {av : List Value} {lv : List (Nat × Value)} {S : Type} {post : Int32 → S → Prop} {wsN : S → va_W} (hy : plainName y.cls = true) (hw : ws = Cond.code y cc maxL (some .int) :: ws') (hml0 : (lg_sl av).length ≤ maxL) (hav : lv_args 0 av = lv)
    (body : ∀ (p : Program) (e : Env) (s : State) (m : MethodId) (below : List Frame) (meth : Method) (c : Code) (A : Nat → Prop) (Q : State → Prop) (ls : Array Slot) (H : Heap) (locs : List Loc), p.tables.exec = Jvm.exec → c.code = cc → c.maxLocals = maxL → s.vm.findClass y.cls = some m.cls → (∀ w ∈ ws, w.before av.toArray s = true) → gq_nw s → (∀ q : Nat, s.heap.size ≤ q → A q) → va_K D vwCl tys s → va_P D vwCl wd H → va_D A wd → va_S A s.heap H locs → lv_has ls maxL lv →
      (∀ (r : Int32) (u : S) (H : Heap) (locs : List Loc) (pc : Nat) (ls : Array Slot), decode cc pc = .ok (.ireturn, 1) → post r u → va_P D vwCl (wsN u) H → va_D A (wsN u) → va_S A s.heap H locs → W p l e rm s m av.toArray below meth c H locs 0 0 Q (F0 m pc ls [.int r])) →
      W p l e rm s m av.toArray below meth c H locs 0 0 Q (F0 m 0 ls [])) :
    Met l y ws rm (va_Pc av (gq_pre D tys wd sz)) (va_Qi post (gq_at D (va_A wd sz) wsN) (va_A wd sz)) 0 0 (va_A wd sz) := by
  refine Met.ofW (cc := cc) (maxL := maxL) (ret := some .int) hy hw ?_
  intro p e s m args below meth c s₁ B hml hv
  obtain ⟨rfl, hsz, hP, hK, hD0, hN⟩ := hv
  have hlocks := B.notSynchronized
  subst hsz
  rw [lg_entry_eq]
  have hl := lv_entry av (n := maxL) hml0
  rw [hav] at hl
  exact body p e s m below meth c (va_A wd s.heap.size) _ _ _ _ B.exec B.bytes hml (findClass_of_methodNamed B.named) (atoms_spec (ws := ws) B.pre) hN (fun q h => Or.inr h) hK hP (hD0.self (sz := s.heap.size)) va_S.rf hl
    (fun r u H locs pc ls hd hq hP hD hS => W.iret (v := r) B.exec B.bytes B.returns (fun t ht hW => ⟨⟨r, u, rfl, hq, by rw [ht]; exact hP, hD⟩, hS.F ht⟩) hS.2.2 hd)
theorem gq_metz {l : Launch} {y : MethodName} {ws ws' : List Cond} {rm : Room} {cc : ByteArray} {maxL : Nat} {D : va_G} {tys : List (ClassId × FieldType)} {wd : va_W} {sz : Nat} {av : List Value} {lv : List (Nat × Value)} {S : Type} {post : Int32 → S → Prop} {wsN : S → va_W} (hy : plainName y.cls = true) (hw : ws = Cond.code y cc maxL (some .boolean) :: ws') (hml0 : (lg_sl av).length ≤ maxL) (hav : lv_args 0 av = lv)
    (body : ∀ (p : Program) (e : Env) (s : State) (m : MethodId) (below : List Frame) (meth : Method) (c : Code) (A : Nat → Prop) (Q : State → Prop) (ls : Array Slot) (H : Heap) (locs : List Loc), p.tables.exec = Jvm.exec → c.code = cc → c.maxLocals = maxL → s.vm.findClass y.cls = some m.cls → (∀ w ∈ ws, w.before av.toArray s = true) → gq_nw s → (∀ q : Nat, s.heap.size ≤ q → A q) → va_K D vwCl tys s → va_P D vwCl wd H → va_D A wd → va_S A s.heap H locs → lv_has ls maxL lv →
      (∀ (r : Int32) (u : S) (H : Heap) (locs : List Loc) (pc : Nat) (ls : Array Slot), decode cc pc = .ok (.ireturn, 1) → gq_zb r → post r u → va_P D vwCl (wsN u) H → va_D A (wsN u) → va_S A s.heap H locs → W p l e rm s m av.toArray below meth c H locs 0 0 Q (F0 m pc ls [.int r])) →
      W p l e rm s m av.toArray below meth c H locs 0 0 Q (F0 m 0 ls [])) :
    Met l y ws rm (va_Pc av (gq_pre D tys wd sz)) (va_Qi post (gq_at D (va_A wd sz) wsN) (va_A wd sz)) 0 0 (va_A wd sz) := by
  refine Met.ofW (cc := cc) (maxL := maxL) (ret := some .boolean) hy hw ?_
  intro p e s m args below meth c s₁ B hml hv
  obtain ⟨rfl, hsz, hP, hK, hD0, hN⟩ := hv
  have hlocks := B.notSynchronized
  subst hsz
  rw [lg_entry_eq]
  have hl := lv_entry av (n := maxL) hml0
  rw [hav] at hl
  exact body p e s m below meth c (va_A wd s.heap.size) _ _ _ _ B.exec B.bytes hml (findClass_of_methodNamed B.named) (atoms_spec (ws := ws) B.pre) hN (fun q h => Or.inr h) hK hP (hD0.self (sz := s.heap.size)) va_S.rf hl
    (fun r u H locs pc ls hd hz hq hP hD hS => W.zret (v := r) B.exec B.bytes B.returns (gq_zbn hz) (fun t ht hW => ⟨⟨r, u, rfl, hq, by rw [ht]; exact hP, hD⟩, hS.F ht⟩) hS.2.2 hd)
theorem gq_metv {l : Launch} {y : MethodName} {ws ws' : List Cond} {rm : Room} {cc : ByteArray} {maxL : Nat} {D : va_G} {tys : List (ClassId × FieldType)} {wd : va_W} {sz : Nat} {av : List Value} {lv : List (Nat × Value)} {S : Type} {post : S → Prop} {wsN : S → va_W} (hy : plainName y.cls = true) (hw : ws = Cond.code y cc maxL none :: ws') (hml0 : (lg_sl av).length ≤ maxL) (hav : lv_args 0 av = lv)
    (body : ∀ (p : Program) (e : Env) (s : State) (m : MethodId) (below : List Frame) (meth : Method) (c : Code) (A : Nat → Prop) (Q : State → Prop) (ls : Array Slot) (H : Heap) (locs : List Loc), p.tables.exec = Jvm.exec → c.code = cc → c.maxLocals = maxL → s.vm.findClass y.cls = some m.cls → (∀ w ∈ ws, w.before av.toArray s = true) → gq_nw s → (∀ q : Nat, s.heap.size ≤ q → A q) → va_K D vwCl tys s → va_P D vwCl wd H → va_D A wd → va_S A s.heap H locs → lv_has ls maxL lv →
      (∀ (u : S) (H : Heap) (locs : List Loc) (pc : Nat) (ls : Array Slot), decode cc pc = .ok (.return_, 1) → post u → va_P D vwCl (wsN u) H → va_D A (wsN u) → va_S A s.heap H locs → W p l e rm s m av.toArray below meth c H locs 0 0 Q (F0 m pc ls [])) →
      W p l e rm s m av.toArray below meth c H locs 0 0 Q (F0 m 0 ls [])) :
    Met l y ws rm (va_Pc av (gq_pre D tys wd sz)) (va_Qv post (gq_at D (va_A wd sz) wsN) (va_A wd sz)) 0 0 (va_A wd sz) := by
  refine Met.ofW (cc := cc) (maxL := maxL) (ret := none) hy hw ?_
  intro p e s m args below meth c s₁ B hml hv
  obtain ⟨rfl, hsz, hP, hK, hD0, hN⟩ := hv
  have hlocks := B.notSynchronized
  subst hsz
  rw [lg_entry_eq]
  have hl := lv_entry av (n := maxL) hml0
  rw [hav] at hl
  exact body p e s m below meth c (va_A wd s.heap.size) _ _ _ _ B.exec B.bytes hml (findClass_of_methodNamed B.named) (atoms_spec (ws := ws) B.pre) hN (fun q h => Or.inr h) hK hP (hD0.self (sz := s.heap.size)) va_S.rf hl
    (fun u H locs pc ls hd hq hP hD hS => W.vret B.exec B.bytes B.returns (fun t ht hW => ⟨⟨u, rfl, hq, by rw [ht]; exact hP, hD⟩, hS.F ht⟩) hS.2.2 hd)
theorem gq_metr {l : Launch} {y : MethodName} {ws ws' : List Cond} {rm : Room} {cc : ByteArray} {maxL : Nat} {on : String} {b0 : Nat} {D : va_G} {tys : List (ClassId × FieldType)} {wd : va_W} {sz : Nat} {av : List Value} {lv : List (Nat × Value)} {S : Type} {post : S → Prop} {wsN : S → va_W} (hy : plainName y.cls = true) (hw : ws = Cond.code y cc maxL (some (.object on)) :: ws') (hml0 : (lg_sl av).length ≤ maxL) (hav : lv_args 0 av = lv)
    (body : ∀ (p : Program) (e : Env) (s : State) (m : MethodId) (below : List Frame) (meth : Method) (c : Code) (A : Nat → Prop) (Q : State → Prop) (ls : Array Slot) (H : Heap) (locs : List Loc), p.tables.exec = Jvm.exec → c.code = cc → c.maxLocals = maxL → s.vm.findClass y.cls = some m.cls → (∀ w ∈ ws, w.before av.toArray s = true) → gq_nw s → (∀ q : Nat, s.heap.size ≤ q → A q) → va_K D vwCl tys s → va_P D vwCl wd H → va_D A wd → va_S A s.heap H locs → lv_has ls maxL lv →
      (∀ (u : S) (H : Heap) (locs : List Loc) (pc : Nat) (ls : Array Slot), decode cc pc = .ok (.areturn, 1) → post u → va_P D vwCl (wsN u) H → va_D A (wsN u) → va_S A s.heap H locs → W p l e rm s m av.toArray below meth c H locs 0 0 Q (F0 m pc ls [.ref b0])) →
      W p l e rm s m av.toArray below meth c H locs 0 0 Q (F0 m 0 ls [])) :
    Met l y ws rm (va_Pc av (gq_pre D tys wd sz)) (va_Qr post (fun u b t => b = b0 ∧ gq_at D (va_A wd sz) wsN u t) (va_A wd sz)) 0 0 (va_A wd sz) := by
  refine Met.ofW (cc := cc) (maxL := maxL) (ret := some (.object on)) hy hw ?_
  intro p e s m args below meth c s₁ B hml hv
  obtain ⟨rfl, hsz, hP, hK, hD0, hN⟩ := hv
  have hlocks := B.notSynchronized
  subst hsz
  rw [lg_entry_eq]
  have hl := lv_entry av (n := maxL) hml0
  rw [hav] at hl
  exact body p e s m below meth c (va_A wd s.heap.size) _ _ _ _ B.exec B.bytes hml (findClass_of_methodNamed B.named) (atoms_spec (ws := ws) B.pre) hN (fun q h => Or.inr h) hK hP (hD0.self (sz := s.heap.size)) va_S.rf hl
    (fun u H locs pc ls hd hq hP hD hS => W.aret (v := .ref b0) B.exec B.bytes B.returns (Or.inl ⟨_, rfl⟩) (Or.inr ⟨_, rfl⟩) (fun t ht hW => ⟨⟨u, b0, rfl, hq, rfl, by rw [ht]; exact hP, hD⟩, hS.F ht⟩) hS.2.2 hd)
theorem gq_metn {l : Launch} {y : MethodName} {ws ws' : List Cond} {rm : Room} {cc : ByteArray} {maxL : Nat} {D : va_G} {tys : List (ClassId × FieldType)} {wd : va_W} {sz : Nat} {av : List Value} {lv : List (Nat × Value)} {S : Type} {post : S → Prop} {wsN : S → va_W} {tyN : S → List (ClassId × FieldType)} {mc ms : Nat} (hy : plainName y.cls = true) (hw : ws = Cond.code y cc maxL none :: ws') (hml0 : (lg_sl av).length ≤ maxL) (hav : lv_args 0 av = lv) (hyn : y.name = "<init>")
    (body : ∀ (p : Program) (e : Env) (s : State) (m : MethodId) (below : List Frame) (meth : Method) (c : Code) (A : Nat → Prop) (Q : State → Prop) (ls : Array Slot) (H : Heap) (locs : List Loc), p.tables.exec = Jvm.exec → c.code = cc → c.maxLocals = maxL → s.vm.findClass y.cls = some m.cls → (∀ w ∈ ws, w.before av.toArray s = true) → gq_nw s → (∀ q : Nat, s.heap.size ≤ q → A q) → va_K D vwCl tys s → va_P D vwCl wd H → va_D A wd → va_S A s.heap H locs → lv_has ls maxL lv → meth.name = "<init>" →
      (∀ (u : S) (H : Heap) (locs : List Loc) (pc : Nat) (ls : Array Slot), decode cc pc = .ok (.return_, 1) → post u → va_P D vwCl (wsN u) H → va_D A (wsN u) → va_K D vwCl (tyN u) s → va_S A s.heap H locs → W p l e rm s m av.toArray below meth c H locs mc ms Q (F0 m pc ls [])) →
      W p l e rm s m av.toArray below meth c H locs 0 0 Q (F0 m 0 ls [])) :
    Met l y ws rm (va_Pc av (gq_pre D tys wd sz)) (va_Qv post (fun u t => gq_at D (va_A wd sz) wsN u t ∧ va_K D vwCl (tyN u) t) (va_A wd sz)) mc ms (va_A wd sz) := by
  refine Met.ofW (cc := cc) (maxL := maxL) (ret := none) hy hw ?_
  intro p e s m args below meth c s₁ B hml hv
  obtain ⟨rfl, hsz, hP, hK, hD0, hN⟩ := hv
  have hlocks := B.notSynchronized
  have hin : meth.name = y.name := (name_of_methodNamed B.named B.method).1
  subst hsz
  rw [lg_entry_eq]
  have hl := lv_entry av (n := maxL) hml0
  rw [hav] at hl
  exact body p e s m below meth c (va_A wd s.heap.size) _ _ _ _ B.exec B.bytes hml (findClass_of_methodNamed B.named) (atoms_spec (ws := ws) B.pre) hN (fun q h => Or.inr h) hK hP (hD0.self (sz := s.heap.size)) va_S.rf hl (hin.trans hyn)
    (fun u H locs pc ls hd hq hP hD hK hS => W.vret B.exec B.bytes B.returns (fun t ht hW => ⟨⟨u, rfl, hq, ⟨by rw [ht]; exact hP, hD⟩, va_K.moved hW.alike hK⟩, hS.F ht⟩) hS.2.2 hd)
section GQN
variable {p : Program} {l : Launch} {e : Env} {R : Room} {s : State} {m : MethodId} {args : Array Value} {below : List Frame} {meth : Method} {c : Code} {H H0 : Heap} {locs : List Loc} {cells slots mc ms : Nat} {Q : State → Prop} {pc : Nat} {ls : Array Slot} {rest st0 : List Value} {A : Nat → Prop} {D : va_G} {ws wc : va_W} {a : Array Value}
theorem gq_calln {S : Type} {post : S → Prop} {w1 wsN : S → va_W} {tyN : S → List (ClassId × FieldType)} (hr : va_Run p l e R s m args below meth c H locs cells slots mc ms (F0 m pc ls st0) rest (va_Qv post (fun u t => gq_at D (va_A wc H.size) w1 u t ∧ va_K D vwCl (tyN u) t) (va_A wc H.size) a) (va_A wc H.size)) (hP : va_P D vwCl ws H) (hD : va_D A ws) (hS : va_S A H0 H locs) (hA : ∀ q, H0.size ≤ q → A q) (isC isR : List Nat) (hC : isC.map (fun i => ws[i]?) = wc.map some) (hR : isR.map (fun i => ws[i]?) = (isR.filterMap (fun i => ws[i]?)).map some) (hn : va_nd isR = true) (hdis : ∀ i ∈ isR, i ∉ isC) (pm : List Nat) (hpn : va_nd pm = true) (hpm : ∀ u, pm.map (fun i => ((isR.filterMap (fun i => ws[i]?)) ++ w1 u)[i]?) = (wsN u).map some)
    (kk : ∀ (u : S) (H1 : Heap) (locs1 : List Loc), post u → va_K D vwCl (tyN u) s → va_P D vwCl (wsN u) H1 → va_D A (wsN u) → va_S A H0 H1 locs1 → W p l e R s m args below meth c H1 locs1 (cells + mc) (slots + ms) Q (F0 m (pc + 3) ls rest)) : W p l e R s m args below meth c H locs cells slots Q (F0 m pc ls st0) := by
  have hF := va_free (wc := wc) hD hS hA isC hC
  refine va_callv hr hS (fun q _ h => hF q h) hF (fun u t H1 locs1 ht hvm hw hB hz1 hk1 hS1 => ?_)
  obtain ⟨hB, hK1⟩ := hB
  obtain ⟨hP2, hD2⟩ := gq_back hP hD isC isR hC hR hn hdis pm hpn hpm hF ht hB hk1
  exact kk u H1 locs1 hw (va_K.moved hvm.symm hK1) hP2 hD2 hS1
end GQN
