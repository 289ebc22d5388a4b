/-! MAKING: rows of the constructors -/
def yIn (C : String) : MethodName := ⟨C, "<init>", "()V"⟩
theorem yIn_d (C : String) : (parseMethodDescriptor (yIn C).desc).map (fun d => d.parameters.length) = some 0 := by
  have : (parseMethodDescriptor "()V").map (fun d => d.parameters.length) = some 0 := by decide +kernel
  exact this
def NWC : List Cond := [.methodLinkNest RX0 11 (yIn RX3) RX8, .methodLinkNest RX8 21 (yIn RX1) RX8, .methodLinkNest RX8 32 (yIn RX7) RX8, .methodLinkNest RX8 39 (yIn RX6) RX8, .methodLinkNest RX6 17 (yIn RX7) RX8, .methodLinkNest RX8 46 (yIn RX2) RX8, .methodLinkNest RX8 53 (yIn RX4) RX8, .methodLinkNest RX8 60 (yIn RX3) RX8]
def KC (D : va_G) (G : Nat → ClassId) (U : State) : Prop := va_K D vwCl (TYS G) U ∧ va_AO RX3 U ∧ va_AO RX7 U ∧ ∀ w ∈ NWC, va_Nw w U
theorem NWC_tab : ∀ w ∈ NWC, w.onTables = true := by decide +kernel
theorem KC.same {D : va_G} {G : Nat → ClassId} {u U : State} (hv : u.vm = U.vm) (h : KC D G u) : KC D G U := by
  have hal : u.vm.Alike U.vm := by rw [hv]; exact Vm.Alike.refl _
  exact ⟨va_K.moved hal h.1, va_AO.moved hal h.2.1, va_AO.moved hal h.2.2.1, fun w hw => va_Nw.same (NWC_tab w hw) hv (h.2.2.2 w hw)⟩
theorem KC.warm {D : va_G} {G : Nat → ClassId} {s U : State} (hW : s.WarmedH U.vm) (h : KC D G s) : KC D G U := by
  refine ⟨va_K.moved hW.alike h.1, va_AO.moved hW.alike h.2.1, va_AO.moved hW.alike h.2.2.1, fun w hw => ?_⟩
  have h1 := h.2.2.2 w hw
  simp only [NWC, List.mem_cons, List.not_mem_nil, or_false] at hw
  rcases hw with rfl | rfl | rfl | rfl | rfl | rfl | rfl | rfl <;> exact va_Nw.warmM hW h1
theorem tys_u {D : va_G} {cl : List vw_C} {tys : List (ClassId × FieldType)} {s : State} {cA cB : ClassId} {ty : FieldType} (hK : va_K D cl tys s) (i j : Nat) (h1 : tys[i]? = some (cA, ty)) (h2 : tys[j]? = some (cB, ty)) : cA = cB := by
  have a := (hK.2 i _ h1).2
  have b := (hK.2 j _ h2).2
  cases ty with
  | object C =>
    obtain ⟨_, _, _, _, _, a4⟩ := a
    obtain ⟨_, _, _, _, _, b4⟩ := b
    exact Option.some.inj (a4.symm.trans b4)
  | _ => exact Option.some.inj (a.symm.trans b)
theorem ac_0 : Cond.arrayClass (newarray.typeOf .int) ∈ WT := WT_in (mem_places (ws := [Cond.arrayClass .int]) [191] (by decide +kernel) _ (List.mem_singleton.mpr rfl)) rfl
theorem ac_1 : Cond.arrayClass (newarray.typeOf .long) ∈ WT := WT_in (mem_places (ws := [Cond.arrayClass .long]) [246] (by decide +kernel) _ (List.mem_singleton.mpr rfl)) rfl
theorem ac_2 : Cond.arrayClass (newarray.typeOf .boolean) ∈ WT := WT_in (mem_places (ws := [Cond.arrayClass .boolean]) [1398] (by decide +kernel) _ (List.mem_singleton.mpr rfl)) rfl
theorem nd_of : ∀ l : List Nat, l.Nodup → va_nd l = true := by
  intro l
  induction l with
  | nil => intro _; rfl
  | cons a r ih =>
    intro h
    rw [List.nodup_cons] at h
    simp only [va_nd, Bool.and_eq_true, decide_eq_true_eq]
    exact ⟨h.1, ih h.2⟩
theorem rng_map {ws : va_W} {x : Nat × va_E} : (List.range ws.length).map (fun i => (ws ++ [x])[i]?) = ws.map some := by
  apply List.ext_getElem?
  intro i
  rw [List.getElem?_map, List.getElem?_map]
  by_cases h : i < ws.length
  · rw [List.getElem?_range h, List.getElem?_eq_getElem h]
    simp [List.getElem?_append_left h, h]
  · rw [List.getElem?_eq_none (by simp; omega), List.getElem?_eq_none (by omega)]
    rfl
theorem jn_ {A0 : Nat → Prop} {D : va_G} {cl : List vw_C} {ws w1 : va_W} {x : Nat × va_E} {H H1 : Heap} (hP : va_P D cl (ws ++ [x]) H) (hD : va_D A0 (ws ++ [x])) (hk : ∀ q : Nat, q < H.size → ¬ va_A [x] H.size q → H1[q]? = H[q]?) (hF : ∀ q, va_A [x] H.size q → A0 q) (hP1 : va_P D cl w1 H1) (hD1 : va_D (va_A [x] H.size) w1) : va_P D cl (ws ++ w1) H1 ∧ va_D A0 (ws ++ w1) :=
  va_join hP hD [ws.length] (List.range ws.length) (by simp) rng_map (nd_of _ List.nodup_range) (fun i hi z => by rw [List.mem_range] at hi; rw [List.mem_singleton] at z; omega) hk hF hP1 hD1
section CT
variable {p : Program} {l : Launch} {e : Env} {R : Room} {s : State} {m : MethodId} {args : Array Value} {below : List Frame} {meth : Method} {c : Code} {H H0 : Heap} {locs : List Loc} {cells slots : Nat} {Q : State → Prop} {D : va_G} {G : Nat → ClassId} {A : Nat → Prop} {ws : va_W} {cc : ByteArray} {pc : Nat} {ls : Array Slot} {rest : List Value}
theorem n_int (hx : p.tables.exec = Jvm.exec) (hb : c.code = cc) (hts : ∀ w ∈ WT, w.before args s = true) (hK : va_K D vwCl (TYS G) s) (hP : va_P D vwCl ws H) (hD : va_D A ws) (hS : va_S A H0 H locs) (hA : ∀ q, H0.size ≤ q → A q) {n : Int32} (N : Nat) (hn : ¬ n < 0) (hN : n.toNatClampNeg = N) (hby : N * 4 ≤ 536870912) (hc1 : cells + 1 ≤ R.cells) (hs1 : slots + N ≤ R.slots) (hd : decode cc pc = .ok (.newarray .int, 2)) (kk : ∀ (q : Nat) (H1 : Heap), va_P D vwCl (ws ++ [(q, .inl (G 0, N, .inl (fun _ => 0)))]) H1 → va_D A (ws ++ [(q, .inl (G 0, N, .inl (fun _ => 0)))]) → va_S A H0 H1 locs → W p l e R s m args below meth c H1 locs (cells + 1) (slots + N) Q (F0 m (pc + 2) ls (.ref q :: rest))) : W p l e R s m args below meth c H locs cells slots Q (F0 m pc ls (.int n :: rest)) := by
  refine va_newa (atype := .int) (ty := .int) (a0 := (N, .inl (fun _ => 0))) hx hb (hts _ ac_0) rfl hK hP hD hS hA (fun _ => rfl) hn hN hby hc1 hs1 hd (fun q cA H1 hK1 hP1 hD1 hS1 => ?_)
  have e : cA = G 0 := tys_u hK1 5 0 rfl rfl
  subst e
  exact kk q H1 hP1 hD1 hS1
theorem n_long (hx : p.tables.exec = Jvm.exec) (hb : c.code = cc) (hts : ∀ w ∈ WT, w.before args s = true) (hK : va_K D vwCl (TYS G) s) (hP : va_P D vwCl ws H) (hD : va_D A ws) (hS : va_S A H0 H locs) (hA : ∀ q, H0.size ≤ q → A q) {n : Int32} (N : Nat) (hn : ¬ n < 0) (hN : n.toNatClampNeg = N) (hby : N * 8 ≤ 536870912) (hc1 : cells + 1 ≤ R.cells) (hs1 : slots + N ≤ R.slots) (hd : decode cc pc = .ok (.newarray .long, 2)) (kk : ∀ (q : Nat) (H1 : Heap), va_P D vwCl (ws ++ [(q, .inl (G 1, N, .inr (.inl (fun _ => 0))))]) H1 → va_D A (ws ++ [(q, .inl (G 1, N, .inr (.inl (fun _ => 0))))]) → va_S A H0 H1 locs → W p l e R s m args below meth c H1 locs (cells + 1) (slots + N) Q (F0 m (pc + 2) ls (.ref q :: rest))) : W p l e R s m args below meth c H locs cells slots Q (F0 m pc ls (.int n :: rest)) := by
  refine va_newa (atype := .long) (ty := .long) (a0 := (N, .inr (.inl (fun _ => 0)))) hx hb (hts _ ac_1) rfl hK hP hD hS hA (fun _ => rfl) hn hN hby hc1 hs1 hd (fun q cA H1 hK1 hP1 hD1 hS1 => ?_)
  have e : cA = G 1 := tys_u hK1 5 1 rfl rfl
  subst e
  exact kk q H1 hP1 hD1 hS1
theorem n_bool (hx : p.tables.exec = Jvm.exec) (hb : c.code = cc) (hts : ∀ w ∈ WT, w.before args s = true) (hK : va_K D vwCl (TYS G) s) (hP : va_P D vwCl ws H) (hD : va_D A ws) (hS : va_S A H0 H locs) (hA : ∀ q, H0.size ≤ q → A q) {n : Int32} (N : Nat) (hn : ¬ n < 0) (hN : n.toNatClampNeg = N) (hby : N * 1 ≤ 536870912) (hc1 : cells + 1 ≤ R.cells) (hs1 : slots + N ≤ R.slots) (hd : decode cc pc = .ok (.newarray .boolean, 2)) (kk : ∀ (q : Nat) (H1 : Heap), va_P D vwCl (ws ++ [(q, .inl (G 2, N, .inl (fun _ => 0)))]) H1 → va_D A (ws ++ [(q, .inl (G 2, N, .inl (fun _ => 0)))]) → va_S A H0 H1 locs → W p l e R s m args below meth c H1 locs (cells + 1) (slots + N) Q (F0 m (pc + 2) ls (.ref q :: rest))) : W p l e R s m args below meth c H locs cells slots Q (F0 m pc ls (.int n :: rest)) := by
  refine va_newa (atype := .boolean) (ty := .boolean) (a0 := (N, .inl (fun _ => 0))) hx hb (hts _ ac_2) rfl hK hP hD hS hA (fun _ => rfl) hn hN hby hc1 hs1 hd (fun q cA H1 hK1 hP1 hD1 hS1 => ?_)
  have e : cA = G 2 := tys_u hK1 5 2 rfl rfl
  subst e
  exact kk q H1 hP1 hD1 hS1
/-- a row of references, of a class whose row is the t-th of the types -/
theorem n_row (hx : p.tables.exec = Jvm.exec) (hb : c.code = cc) {own C : String} {index t : Nat} (hown : s.vm.findClass own = some m.cls) (hcl : (Cond.classLink own index C).before args s = true) (hao : va_AO C s) (hK : va_K D vwCl (TYS G) s) (ht : ∀ cA, (TYS G ++ [(cA, .object C)])[t]? = some (G t, .object C)) (hP : va_P D vwCl ws H) (hD : va_D A ws) (hS : va_S A H0 H locs) (hA : ∀ q, H0.size ≤ q → A q) {n : Int32} (N : Nat) (hn : ¬ n < 0) (hN : n.toNatClampNeg = N) (hby : N * 4 ≤ 536870912) (hc1 : cells + 1 ≤ R.cells) (hs1 : slots + N ≤ R.slots) (hd : decode cc pc = .ok (.anewarray index, 3)) (kk : ∀ (q : Nat) (H1 : Heap), va_P D vwCl (ws ++ [(q, .inl (G t, N, .inr (.inr (.inr (.inr (fun _ => none))))))]) H1 → va_D A (ws ++ [(q, .inl (G t, N, .inr (.inr (.inr (.inr (fun _ => none))))))]) → va_S A H0 H1 locs → W p l e R s m args below meth c H1 locs (cells + 1) (slots + N) Q (F0 m (pc + 3) ls (.ref q :: rest))) : W p l e R s m args below meth c H locs cells slots Q (F0 m pc ls (.int n :: rest)) := by
  refine va_newq hx hb hown hcl hao hK hP hD hS hA hn hN hby hc1 hs1 hd (fun q cA H1 hK1 hP1 hD1 hS1 => ?_)
  have e : cA = G t := tys_u hK1 5 t rfl (ht cA)
  subst e
  exact kk q H1 hP1 hD1 hS1
def PCt (D : va_G) (G : Nat → ClassId) (h : Nat) (ws : va_W) (sz : Nat) : Array Value → State → Prop := va_Pc [.ref h] (fun U => U.heap.size = sz ∧ va_P D vwCl ws U.heap ∧ KC D G U ∧ va_D (fun _ => True) ws)
def QCt (D : va_G) (E : va_W → Prop) (A : Nat → Prop) : Array Value → State → Outcome → State → Prop := va_Qv (fun _ : Unit => True) (fun _ t => ∃ w1, E w1 ∧ va_P D vwCl w1 t.heap ∧ va_D A w1) A
/-- a constructor's contract -/
def CtM (l : Launch) (C : String) (b : ByteArray) (nL ci : Nat) (fs : List Value) (E : (Nat → ClassId) → Nat → va_W → Prop) (rm : Room) : Prop := ∀ (D : va_G) (G : Nat → ClassId) (h sz : Nat), Met l (yIn C) (Cond.code (yIn C) b nL none :: WT) rm (PCt D G h [(h, .inr (ci, fs))] sz) (QCt D (E G h) (va_A [(h, .inr (ci, fs))] sz)) rm.cells rm.slots (va_A [(h, .inr (ci, fs))] sz)
theorem ct_of {C : String} {b : ByteArray} {nL ci : Nat} {fs : List Value} {E : (Nat → ClassId) → Nat → va_W → Prop} {rm : Room} (l : Launch) (hy : plainName C = true) (hnL : 1 ≤ nL) (k : ∀ (D : va_G) (G : Nat → ClassId) (h : Nat) (p : Program) (e : Env) (s : State) (m : MethodId) (below : List Frame) (meth : Method) (c : Code) (ls : Array Slot) (A : Nat → Prop), p.tables.exec = Jvm.exec → c.code = b → c.maxLocals = nL → meth.sig.returnType = none → s.vm.findClass C = some m.cls → meth.locks = false → meth.name = "<init>" → (∀ w ∈ WT, w.before #[.ref h] s = true) → KC D G s → va_P D vwCl [(h, .inr (ci, fs))] s.heap → va_D A [(h, .inr (ci, fs))] → (∀ q, s.heap.size ≤ q → A q) → lv_has ls nL [(0, .ref h)] → W p l e rm s m #[.ref h] below meth c s.heap [] 0 0 (MQ below (QCt D (E G h) A) #[.ref h] s rm.cells rm.slots A) (F0 m 0 ls [])) : CtM l C b nL ci fs E rm := by
  intro D G h sz
  refine Met.ofW (cc := b) (maxL := nL) (ret := none) hy rfl ?_
  intro p e s m args below meth c s₁ B hml hv
  obtain ⟨rfl, hsz, hP, hK, hD0⟩ := hv
  have hts := atoms_spec (ws := Cond.code (yIn C) b nL none :: WT) B.pre
  have hown : s.vm.findClass C = some m.cls := findClass_of_methodNamed B.named
  have hin : meth.name = "<init>" := (name_of_methodNamed B.named B.method).1
  subst hsz
  have hD := hD0.self (sz := s.heap.size)
  have hl := lv_entry ([.ref h]) (n := nL) hnL
  rw [lg_entry_eq]
  generalize (lg_sl ([.ref h]) ++ List.replicate (nL - (lg_sl ([.ref h])).length) Slot.unset).toArray = ls at hl ⊢
  exact k D G h p e s m below meth c ls _ B.exec B.bytes hml B.returns hown B.notSynchronized hin (fun w hw => hts w (List.mem_cons_of_mem _ hw)) hK hP hD (fun q hq => Or.inr hq) hl
theorem ct_ret {E : va_W → Prop} (hx : p.tables.exec = Jvm.exec) (hb : c.code = cc) (hr : meth.sig.returnType = none) (hlocks : meth.locks = false) (hS : va_S A s.heap H locs) (w1 : va_W) (hE : E w1) (hP : va_P D vwCl w1 H) (hD : va_D A w1) (hd : decode cc pc = .ok (.return_, 1)) : W p l e R s m args below meth c H locs cells slots (MQ below (QCt D E A) args s cells slots A) (F0 m pc ls []) :=
  W.vret hx hb hr (fun t ht hW => ⟨⟨(), rfl, trivial, w1, hE, by rw [ht]; exact hP, hD⟩, hS.F ht⟩) hS.2.2 hd hlocks
/-- new, dup, the constructor's call -/
theorem ct_new {own C : String} {T : u_T} {N ci i1 i2 nL0 nL : Nat} {fs : List Value} {b : ByteArray} {E : (Nat → ClassId) → Nat → va_W → Prop} {rm : Room} {ty : Nat → FieldType} (hx : p.tables.exec = Jvm.exec) (hb : c.code = cc) (hml : c.maxLocals = nL0) (hown : s.vm.findClass own = some m.cls) (hts : ∀ w ∈ WT, w.before args s = true) (hK : KC D G s) (hP : va_P D vwCl ws H) (hD : va_D A ws) (hS : va_S A H0 H locs) (hA : ∀ q, H0.size ≤ q → A q) (hls : ls.size = nL0)
    (hin : ∀ w ∈ u_ws C T N, w ∈ WT) (hty : ∀ k, k < N → parseFieldDescriptor (T k).2.2.1 = some (ty k)) (hc : vwCl[ci]? = some (C, T, N)) (hfs : ∀ j, j < N → defaultValue (ty j) = vp_V fs j) (w1 : Cond.classLink own i1 C ∈ WT) (w2 : Cond.instantiable C N ∈ WT) (w3 : Cond.initialized C ∈ WT) (w4 : Cond.instanceMethod (yIn C) ∈ WT) (w5 : Cond.code (yIn C) b nL none ∈ WT)
    (hlk : Cond.methodLink own i2 (yIn C) ∈ WT ∨ Cond.methodLinkNest own i2 (yIn C) RX8 ∈ NWC) (hnh : C ≠ "java/lang/invoke/MethodHandle" ∧ C ≠ "java/lang/invoke/VarHandle") (hM : CtM l C b nL ci fs E rm) (hR : rm.frames + 1 ≤ R.frames ∧ 8 + (nL + 11) + rm.locals ≤ R.locals) (hcs : cells + 1 + rm.cells ≤ R.cells ∧ slots + N + rm.slots ≤ R.slots) (hrest : (rest.map fun v => v.category).sum ≤ 7) (d1 : decode cc pc = .ok (.new i1, 3)) (d2 : decode cc (pc + 3) = .ok (.dup, 1)) (d3 : decode cc (pc + 4) = .ok (.invokespecial i2, 3))
    (kk : ∀ (q : Nat) (wn : va_W) (H1 : Heap) (locs1 : List Loc), E G q wn → va_P D vwCl (ws ++ wn) H1 → va_D A (ws ++ wn) → va_S A H0 H1 locs1 → W p l e R s m args below meth c H1 locs1 (cells + 1 + rm.cells) (slots + N + rm.slots) Q (F0 m (pc + 7) ls (.ref q :: rest))) : W p l e R s m args below meth c H locs cells slots Q (F0 m pc ls rest) := by
  refine va_new (ci := ci) (fs := fs) (C := C) (T := T) (N := N) hx hb hts hin ty hty hown (hts _ w1) (hts _ w2) (hts _ w3) hK.1 hP hD hS hA hc hfs (by omega) (by omega) d1 (fun q H hP hD hS => ?_)
  refine lv_dup hx hb d2 rfl ?_
  have hPc := hP.sub (ws' := [(q, .inr (ci, fs))]) [ws.length] (by simp)
  have hDc := hD.sub (ws' := [(q, .inr (ci, fs))]) [ws.length] rfl (by simp)
  have hFc := va_free (wc := [(q, .inr (ci, fs))]) hD hS hA [ws.length] (by simp)
  have hps : PreS s H (PCt D G q [(q, .inr (ci, fs))] H.size) [.ref q] := ⟨fun a U g mk q0 => by obtain ⟨q1, q2, q3, q4, q5⟩ := q0; exact ⟨q1, q2, q3, KC.same (u := U) (U := U.calling g mk a) rfl q4, q5⟩, fun U hU hW => ⟨rfl, by rw [hU], by rw [hU]; exact hPc, hK.warm hW, hDc.weaken (fun _ _ _ _ => trivial)⟩⟩
  have hcat : 2 * (F0 m (pc + 4) ls (.ref q :: .ref q :: rest)).monitorRoom + ((.ref q :: rest).map fun v => v.category).sum ≤ 8 := by
    show 0 + ((.ref q :: rest).map fun v => v.category).sum ≤ 8
    rw [List.map_cons, List.sum_cons]
    have : (Value.ref q).category = 1 := rfl
    omega
  have hrun : va_Run p l e R s m args below meth c H locs (cells + 1) (slots + N) rm.cells rm.slots (F0 m (pc + 4) ls (.ref q :: .ref q :: rest)) (.ref q :: rest) (QCt D (E G q) (va_A [(q, .inr (ci, fs))] H.size) (Value.ref q :: ([] : List Value)).toArray) (va_A [(q, .inr (ci, fs))] H.size) := by
    rcases hlk with hl | hl
    · exact va_runI (As := []) (rest := .ref q :: rest) ⟨hx, hb, hml, hown, hts⟩ (hM D G q H.size) (cwI 0 hts (goodWT w5) rfl rfl rfl (hts _ w3) (hts _ hl) (hts _ w4) rfl ⟨hnh.1, hnh.2, yIn_d C⟩ hR) hps rfl rfl hls rfl hcat d3 hcs
    · exact va_runIN (As := []) (rest := .ref q :: rest) ⟨hx, hb, hml, hown, hts⟩ (hM D G q H.size) ⟨va_cnB 0 hts (goodWT w5) rfl rfl rfl (hK.2.2.2 _ hl) (hts _ w3) ⟨hnh.1, hnh.2, yIn_d C⟩ hR, rfl, hts _ w4⟩ hps rfl rfl hls rfl hcat d3 hcs
  refine va_callv hrun hS (fun q1 _ h => hFc q1 h) hFc (fun u t H1 locs1 ht hvm hw hB hz1 hk1 hS => ?_)
  obtain ⟨wn, hE, hP1, hD1⟩ := hB
  rw [ht] at hP1
  obtain ⟨hP2, hD2⟩ := jn_ hP hD hk1 hFc hP1 hD1
  exact kk q wn H1 locs1 hE hP2 hD2 hS
end CT
