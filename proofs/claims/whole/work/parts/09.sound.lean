/-! A RUN OF THE NUMBER MACHINE IS A RUN OF THE MACHINE -/
/-- a method for the machine: its name, bytes, type of answer, static or not, the owner's number, its instructions as they lie in the bytes -/
abbrev MSr : Type := MethodName × ByteArray × Option FieldType × Bool × Nat × List (Nat × Instr × Nat)
def retOK (rt : Nat) (ret : Option FieldType) : Prop := (rt = 0 ∧ ret = some .int) ∨ (rt = 1 ∧ ret = some .long) ∨ (rt = 2 ∧ ret = some .boolean) ∨ (rt = 3 ∧ ret = none) ∨ (10 ≤ rt ∧ ∃ n, ret = some (.object n))
def Tab (own : Nat) (cc : ByteArray) (C : List Instr) (B : List (Nat × Instr × Nat)) : Prop := C.length = B.length ∧ ∀ (j : Nat) (i : Instr) (b : Nat × Instr × Nat), C[j]? = some i → B[j]? = some b → decode cc b.1 = .ok (b.2.1, b.2.2) ∧ okE own B j b i = true
def tagW (t : Nat) : Nat := if t = 1 then 2 else 1
def MOK (k : Nat) (M : MI) (S : MSr) : Prop :=
  (S.2.2.2.1 = true ↔ k ∈ STK) ∧ plainName S.1.cls = true ∧ YN k = S.1 ∧ OWNN S.2.2.2.2.1 = S.1.cls ∧ Cond.code S.1 S.2.1 M.2.2.1 S.2.2.1 ∈ WT ∧ Cond.initialized S.1.cls ∈ WT ∧ (S.1.cls ≠ "java/lang/invoke/MethodHandle" ∧ S.1.cls ≠ "java/lang/invoke/VarHandle") ∧
  (S.2.2.2.1 = true → Cond.static S.1 ∈ WT ∧ (parseMethodDescriptor S.1.desc).map (fun d => d.parameters.length) = some M.1.length) ∧
  (S.2.2.2.1 = false → Cond.instanceMethod S.1 ∈ WT ∧ Cond.selects S.1.cls S.1 S.1 ∈ WT ∧ ∃ (ci : Nat) (tl : List Nat), M.1 = (ci + 10) :: tl ∧ ci < 9 ∧ CR ci = S.1.cls ∧ (parseMethodDescriptor S.1.desc).map (fun d => d.parameters.length) = some tl.length) ∧
  retOK M.2.1 S.2.2.1 ∧ M.2.2.1 ≤ 40 ∧ (M.1.map tagW).sum ≤ M.2.2.1 ∧ Tab S.2.2.2.2.1 S.2.1 M.2.2.2 S.2.2.2.2.2 ∧ 0 < S.2.2.2.2.2.length ∧ bpOf S.2.2.2.2.2 0 = 0
def Tabs (MT : List MI) (MS : List MSr) : Prop := ∀ (k : Nat) (M : MI), MT[k]? = some M → ∃ S : MSr, MS[k]? = some S ∧ MOK k M S
theorem Sc_ro {ad : Int → Nat} {A : Nat → Prop} {s : State} {H : Heap} {m m' : Mm} (h : Sc NWL ad A s H m) (h0 : ∀ z, m' 500 z = m 500 z) (h1 : ∀ z, m' 501 z = m 501 z) : Sc NWL ad A s H m' := by
  obtain ⟨⟨Ls, xs, a1, a2, a3, a4, a5, a6⟩, ⟨ys, b1, b2, b3, b4⟩, r⟩ := h
  exact ⟨⟨Ls, xs, a1, a2, a3, by rw [h0]; exact a4, a5, fun j hj => by rw [h0]; exact a6 j hj⟩, ⟨ys, b1, b2, b3, fun j hj => by rw [h1]; exact b4 j hj⟩, r⟩
theorem NW_warm {s U : State} (hW : s.WarmedH U.vm) (h : ∀ w ∈ NWL, va_Nw w s) : ∀ w ∈ NWL, va_Nw w U := by
  intro w hw
  have h1 := h w hw
  rcases List.mem_cons.mp hw with rfl | hw
  · exact va_Nw.warmF hW h1
  · obtain ⟨q, hq, rfl⟩ := List.mem_map.mp hw
    have hq2 := (List.mem_filter.mp hq).2
    simp only [FLW, fword, if_pos hq2] at h1 ⊢
    exact va_Nw.warmF hW h1
theorem NW_same {u U : State} (hv : u.vm = U.vm) (h : ∀ w ∈ NWL, va_Nw w u) : ∀ w ∈ NWL, va_Nw w U := by
  intro w hw
  have h1 := h w hw
  refine va_Nw.same ?_ hv h1
  rcases List.mem_cons.mp hw with rfl | hw
  · rfl
  · obtain ⟨q, hq, rfl⟩ := List.mem_map.mp hw
    have hq2 := (List.mem_filter.mp hq).2
    simp only [FLW, fword, if_pos hq2]
    rfl
theorem Sc_warm {ad : Int → Nat} {A : Nat → Prop} {s U : State} {H : Heap} {m : Mm} (hW : s.WarmedH U.vm) (h : Sc NWL ad A s H m) : Sc NWL ad A U H m := by
  obtain ⟨⟨Ls, xs, a1, a⟩, ⟨ys, b1, b⟩, c1, ⟨adV, d1⟩, e1, e2, f1, f2, g⟩ := h
  exact ⟨⟨Ls, xs, va_X.moved hW.alike a1, a⟩, ⟨ys, va_X.moved hW.alike b1, b⟩, va_Z.moved hW.alike c1, ⟨adV, vk_S.moved hW.alike d1⟩, vk_R.warm hW e1, vk_R.warm hW e2, va_Z.moved hW.alike f1, va_Zq.moved hW.alike f2, NW_warm hW g⟩
theorem Sc_same {ad : Int → Nat} {A : Nat → Prop} {u U : State} {H : Heap} {m : Mm} (hv : u.vm = U.vm) (h : Sc NWL ad A u H m) : Sc NWL ad A U H m := by
  obtain ⟨⟨Ls, xs, a1, a⟩, ⟨ys, b1, b⟩, c1, ⟨adV, d1⟩, e1, e2, f1, f2, g⟩ := h
  have hal : u.vm.Alike U.vm := by rw [hv]; exact Vm.Alike.refl _
  exact ⟨⟨Ls, xs, va_X.moved hal a1, a⟩, ⟨ys, va_X.moved hal b1, b⟩, va_Z.moved hal c1, ⟨adV, vk_S.moved hal d1⟩, vk_R.same hv.symm e1, vk_R.same hv.symm e2, va_Z.moved hal f1, va_Zq.moved hal f2, NW_same hv g⟩
theorem Sc_kept {ad : Int → Nat} {A : Nat → Prop} {s : State} {H H1 : Heap} {m : Mm} (h : Sc NWL ad A s H m) (hz : H.size ≤ H1.size) (hq : ∀ a : Nat, a < H.size → ¬ A a → H1[a]? = H[a]?) : Sc NWL ad A s H1 m := by
  obtain ⟨⟨Ls, xs, a1, a2, a3, a⟩, ⟨ys, b1, b2, b3, b⟩, c1, ⟨adV, d1⟩, e1, e2, f1, f2, g⟩ := h
  exact ⟨⟨Ls, xs, a1.kept (hq _ a2 a3), Nat.lt_of_lt_of_le a2 hz, a3, a⟩, ⟨ys, b1.kept (hq _ b2 b3), Nat.lt_of_lt_of_le b2 hz, b3, b⟩, c1.kept hq, ⟨adV, d1.kept hq⟩, e1, e2, f1.kept hq, f2.kept hq, g⟩
theorem Sc_narrow {ad : Int → Nat} {A A' : Nat → Prop} {s : State} {H : Heap} {m : Mm} (h : Sc NWL ad A s H m) (hA : ∀ q, A' q → A q) : Sc NWL ad A' s H m := by
  obtain ⟨⟨Ls, xs, a1, a2, a3, a⟩, ⟨ys, b1, b2, b3, b⟩, c1, ⟨adV, d1⟩, e1, e2, f1, f2, g⟩ := h
  exact ⟨⟨Ls, xs, a1, a2, fun z => a3 (hA _ z), a⟩, ⟨ys, b1, b2, fun z => b3 (hA _ z), b⟩, c1.narrow hA, ⟨adV, d1.narrow hA⟩, e1, e2, f1.narrow hA, f2.narrow hA, g⟩
/-! a contract's start and end -/
def Pk (ad : Int → Nat) (G : Nat → ClassId) (D : va_G) (a : List Vv) (m : Mm) (sz : Nat) : Array Value → State → Prop := va_Pc (a.map (cv ad)) (fun U => U.heap.size = sz ∧ va_P D vwCl (WS ad G m) U.heap ∧ va_K D vwCl (TYS G) U ∧ va_D (fun _ => True) (WS ad G m) ∧ Sc NWL ad (va_A (WS ad G m) sz) U U.heap m)
def Qk (ad : Int → Nat) (G : Nat → ClassId) (D : va_G) (v : Option Vv) (m' : Mm) (A1 : Nat → Prop) : Array Value → State → Outcome → State → Prop := fun _ st oc t => oc = .returned (v.map (cv ad)) ∧ va_P D vwCl (WS ad G m') t.heap ∧ va_D A1 (WS ad G m') ∧ va_F A1 st t
theorem run_go {p : Program} {l : Launch} {e : Env} {R : Room} {s : State} {mid : MethodId} {args : Array Value} {below : List Frame} {meth : Method} {c : Code} {H : Heap} {locs : List Loc} {cells slots : Nat} {Q : State → Prop} {pc : Nat} {ls : Array Slot} {rest st0 : List Value} {a : Array Value} {A0 A1 : Nat → Prop} {H0 : Heap} {free : Addr → Prop} {ad : Int → Nat} {G : Nat → ClassId} {D : va_G} {v : Option Vv} {m1 : Mm}
    (hr : va_Run p l e R s mid args below meth c H locs cells slots 0 0 (F0 mid pc ls st0) rest (Qk ad G D v m1 A1 a) free) (hS : va_S A0 H0 H locs) (hA : ∀ q, q < H.size → A1 q → A0 q) (hf : ∀ q, free q → A0 q)
    (kk : ∀ (H1 : Heap) (locs1 : List Loc), va_P D vwCl (WS ad G m1) H1 → va_D A1 (WS ad G m1) → va_S A0 H0 H1 locs1 → W p l e R s mid args below meth c H1 locs1 cells slots Q (F0 mid (pc + 3) ls ((v.map (cv ad)).toList ++ rest))) : W p l e R s mid args below meth c H locs cells slots Q (F0 mid pc ls st0) := by
  intro T hT X
  obtain ⟨v', st₀, t, T', L, h0, X', hL, e1, e2, ⟨hv, hp, hd, hz, hk⟩, st⟩ := hr T hT X
  cases hv
  rw [h0] at hz hk
  obtain ⟨t2, a1, b1⟩ := kk T'.heap (locs ++ L) (by rw [e1]; exact hp) hd
    ⟨Nat.le_trans hS.1 (by rw [e1]; exact hz), fun q h1 h2 => by rw [e1, hk q (Nat.lt_of_lt_of_le h1 hS.1) (fun z => h2 (hA q (Nat.lt_of_lt_of_le h1 hS.1) z))]; exact hS.2.1 q h1 h2, fun q hq => by
      rcases List.mem_append.mp hq with h | h
      · exact hS.2.2 q h
      · exact hf _ (hL q h)⟩ T' rfl X'
  exact ⟨t2, st t2 a1, b1⟩
theorem ent_args (ad : Int → Nat) : ∀ (a : List Vv) (k i : Nat) (v : Vv), (entL a)[i]? = some v → v.1 ≠ 9 → (k + i, cv ad v) ∈ lv_args k (a.map (cv ad)) := by
  intro a
  induction a with
  | nil => intro k i v h; simp [entL] at h
  | cons q r ih =>
    obtain ⟨t, x⟩ := q
    intro k i v h h9
    have hcat : (cv ad (t, x)).category = catV (t, x) := cv_cat ad _
    by_cases ht : t = 1
    · subst ht
      simp only [entL, if_true] at h
      simp only [List.map_cons, lv_args, hcat]
      rw [if_pos (by simp [catV])]
      match i, h with
      | 0, h =>
        simp only [List.getElem?_cons_zero, Option.some.injEq] at h
        subst h
        exact List.mem_cons_self
      | 1, h =>
        simp only [List.getElem?_cons_succ, List.getElem?_cons_zero, Option.some.injEq] at h
        subst h
        exact absurd rfl h9
      | i + 2, h =>
        simp only [List.getElem?_cons_succ] at h
        have := ih (k + 2) i v h h9
        rw [show k + (i + 2) = k + 2 + i by omega]
        exact List.mem_cons_of_mem _ this
    · simp only [entL, if_neg ht] at h
      simp only [List.map_cons, lv_args, hcat]
      rw [if_neg (by simp [catV, ht])]
      match i, h with
      | 0, h =>
        simp only [List.getElem?_cons_zero, Option.some.injEq] at h
        subst h
        exact List.mem_cons_self
      | i + 1, h =>
        simp only [List.getElem?_cons_succ] at h
        have := ih (k + 1) i v h h9
        rw [show k + (i + 1) = k + 1 + i by omega]
        exact List.mem_cons_of_mem _ this
theorem ent_len (ad : Int → Nat) : ∀ a : List Vv, (lg_sl (a.map (cv ad))).length = (entL a).length ∧ (entL a).length = (a.map (fun v => tagW v.1)).sum := by
  intro a
  induction a with
  | nil => exact ⟨rfl, rfl⟩
  | cons q r ih =>
    obtain ⟨t, x⟩ := q
    have hcat : (cv ad (t, x)).category = catV (t, x) := cv_cat ad _
    have e1 : lg_sl ((cv ad (t, x)) :: r.map (cv ad)) = (if (cv ad (t, x)).category = 2 then [.val (cv ad (t, x)), .second] else [.val (cv ad (t, x))]) ++ lg_sl (r.map (cv ad)) := by simp [lg_sl]
    by_cases ht : t = 1
    · subst ht
      refine ⟨?_, ?_⟩
      · rw [List.map_cons, e1, hcat, if_pos (by simp [catV])]
        simp [entL, ih.1]
      · simp [entL, tagW, ih.2]; omega
    · refine ⟨?_, ?_⟩
      · rw [List.map_cons, e1, hcat, if_neg (by simp [catV, ht])]
        simp [entL, ht, ih.1]
      · simp [entL, tagW, ht, ih.2]; omega
theorem LH_ent (ad : Int → Nat) (a : List Vv) {n : Nat} (hn : (entL a).length ≤ n) : LH ad ((lg_sl (a.map (cv ad)) ++ List.replicate (n - (lg_sl (a.map (cv ad))).length) Slot.unset).toArray) n (ent a n) := by
  have h0 := (ent_len ad a).1
  obtain ⟨h1, h2, h3⟩ := lv_entry (a.map (cv ad)) (n := n) (by rw [h0]; exact hn)
  refine ⟨by simp [ent]; omega, h1, h2, fun i v hi h9 => ?_⟩
  unfold ent at hi
  by_cases hl : i < (entL a).length
  · rw [List.getElem?_append_left hl] at hi
    have := ent_args ad a 0 i v hi h9
    rw [Nat.zero_add] at this
    exact h3 _ this
  · rw [List.getElem?_append_right (by omega)] at hi
    have := List.mem_of_getElem? hi
    have := (List.mem_replicate.mp this).2
    rw [this] at h9
    exact absurd rfl h9
theorem entL_ok {a : List Vv} (h : ∀ v ∈ a, Vok v) : ∀ v ∈ entL a, Vok v := by
  induction a with
  | nil => intro v hv; cases hv
  | cons q r ih =>
    obtain ⟨t, x⟩ := q
    obtain ⟨h1, h2⟩ := List.forall_mem_cons.mp h
    intro v hv
    unfold entL at hv
    split at hv
    · rcases List.mem_cons.mp hv with rfl | hv
      · exact h1
      · rcases List.mem_cons.mp hv with rfl | hv
        · exact Vok_9
        · exact ih h2 v hv
    · rcases List.mem_cons.mp hv with rfl | hv
      · exact h1
      · exact ih h2 v hv
theorem ent_ok {a : List Vv} {n : Nat} (h : ∀ v ∈ a, Vok v) : ∀ v ∈ ent a n, Vok v := by
  intro v hv
  rcases List.mem_append.mp hv with hv | hv
  · exact entL_ok h v hv
  · rw [(List.mem_replicate.mp hv).2]
    exact Vok_9
/-- the return of a method -/
theorem ret_go {p : Program} {l : Launch} {e : Env} {R : Room} {s : State} {mid : MethodId} {args : Array Value} {below : List Frame} {meth : Method} {c : Code} {ad : Int → Nat} {G : Nat → ClassId} {D : va_G} {A : Nat → Prop} {nL : Nat} {own : Nat} {cc : ByteArray} {B : List (Nat × Instr × Nat)} {C : List Instr} {ret : Option FieldType} {rt : Nat} {v : Option Vv} {m' : Mm} {j : Nat} {i : Instr} {L st : List Vv}
    (K : CX NWL p R s mid args c (OWNN own) cc ad G D A nL) (hr : meth.sig.returnType = ret) (hlocks : meth.locks = false) (hrt : retOK rt ret) (T : Tab own cc C B) (hi : C[j]? = some i) (h : ret1 i rt st = some v) :
    Go p l e R s mid args below meth c (MQ below (Qk ad G D v m' A) args s 0 0 A) ad G D A nL 0 0 (bpOf B j) L st m' := by
  intro H locs ls hP hD hS hL
  have hjl : j < B.length := by rw [← T.1]; exact (List.getElem?_eq_some_iff.mp hi).1
  obtain ⟨b, hb⟩ : ∃ b, B[j]? = some b := ⟨B[j], List.getElem?_eq_getElem hjl⟩
  obtain ⟨hdec, hok⟩ := T.2 j i b hi hb
  rw [bpOf_at hb]
  have hq : ∀ (v9 : Option Value), v.map (cv ad) = v9 → ∀ t : State, t.heap = H → s.WarmedH t.vm → Qk ad G D v m' A args s (.returned v9) t := fun v9 hv t ht _ => ⟨by rw [hv], by rw [ht]; exact hP, hD, hS.F ht⟩
  cases i with
  | ireturn =>
    simp only [okE, decide_eq_true_eq] at hok
    simp only [ret1] at h
    split at h
    · rename_i x
      split at h
      · rename_i h0
        cases h
        have hret : ret = some .int := by rcases hrt with ⟨a1, a2⟩ | ⟨a1, a2⟩ | ⟨a1, a2⟩ | ⟨a1, a2⟩ | ⟨a1, a2⟩ <;> first | exact a2 | omega
        exact W.iret (v := Int32.ofInt x) K.1 K.2.1 (hr.trans hret) (hq _ rfl) hS.2.2 (dec_of hdec hok.1 hok.2) hlocks
      · split at h
        · split at h
          · rename_i h0 h2 hx
            cases h
            have hret : ret = some .boolean := by rcases hrt with ⟨a1, a2⟩ | ⟨a1, a2⟩ | ⟨a1, a2⟩ | ⟨a1, a2⟩ | ⟨a1, a2⟩ <;> first | exact a2 | omega
            exact W.zret (v := Int32.ofInt x) K.1 K.2.1 (hr.trans hret) (by rcases hx with rfl | rfl <;> rfl) (hq _ rfl) hS.2.2 (dec_of hdec hok.1 hok.2) hlocks
          · cases h
        · cases h
    · cases h
  | lreturn =>
    simp only [okE, decide_eq_true_eq] at hok
    simp only [ret1] at h
    split at h
    · rename_i x
      split at h
      · rename_i h0
        cases h
        have hret : ret = some .long := by rcases hrt with ⟨a1, a2⟩ | ⟨a1, a2⟩ | ⟨a1, a2⟩ | ⟨a1, a2⟩ | ⟨a1, a2⟩ <;> first | exact a2 | omega
        exact W.lret (v := Int64.ofInt x) K.1 K.2.1 (hr.trans hret) (hq _ rfl) hS.2.2 (dec_of hdec hok.1 hok.2) hlocks
      · cases h
    · cases h
  | areturn =>
    simp only [okE, decide_eq_true_eq] at hok
    simp only [ret1] at h
    split at h
    · rename_i t x
      split at h
      · rename_i h0
        cases h
        obtain ⟨h0, h10⟩ := h0
        subst h0
        obtain ⟨nm, hret⟩ : ∃ n, ret = some (.object n) := by
          rcases hrt with ⟨a1, a2⟩ | ⟨a1, a2⟩ | ⟨a1, a2⟩ | ⟨a1, a2⟩ | ⟨a1, a2⟩
          · omega
          · omega
          · omega
          · omega
          · exact a2
        obtain ⟨a, ha⟩ := cv_r ad rt x (by omega)
        show W p l e R s mid args below meth c H locs 0 0 _ (F0 mid b.1 ls [cv ad (rt, x)])
        exact W.aret K.1 K.2.1 (hr.trans hret) (Or.inl ⟨nm, rfl⟩) (Or.inr ⟨a, ha⟩) (hq _ rfl) hS.2.2 (dec_of hdec hok.1 hok.2) hlocks
      · cases h
    · cases h
  | return_ =>
    simp only [okE, decide_eq_true_eq] at hok
    simp only [ret1] at h
    split at h
    · split at h
      · rename_i h0
        cases h
        have hret : ret = none := by rcases hrt with ⟨a1, a2⟩ | ⟨a1, a2⟩ | ⟨a1, a2⟩ | ⟨a1, a2⟩ | ⟨a1, a2⟩ <;> first | exact a2 | omega
        exact W.vret K.1 K.2.1 (hr.trans hret) (hq _ rfl) hS.2.2 (dec_of hdec hok.1 hok.2) hlocks
      · cases h
    · cases h
  | _ => simp [ret1] at h
/-- what is still owed of the texts' own methods -/
def STR : Prop := ∀ (p : Program) (l : Launch) (e : Env) (R : Room) (s : State) (mid : MethodId) (args : Array Value) (below : List Frame) (meth : Method) (c : Code) (Q : State → Prop) (ad : Int → Nat) (G : Nat → ClassId) (D : va_G) (A : Nat → Prop) (nL cells slots : Nat) (cc : ByteArray) (m : Mm), CX NWL p R s mid args c RX6 cc ad G D A nL → Sc NWL ad A s s.heap m → 10 ≤ R.frames → 640 ≤ R.locals → cells ≤ R.cells → slots ≤ R.slots → StrRows p l e R s mid args below meth c Q ad G D A nL cells slots cc
/-- what a run gives: its end's numbers are right, and the machine goes along with it -/
def SND (MT : List MI) (n : Nat) : Prop := ∀ (d : Nat) (C : List Instr) (rt pc : Nat) (L st : List Vv) (m : Mm) (v : Option Vv) (m' : Mm) (p : Program) (l : Launch) (e : Env) (R : Room) (s : State) (mid : MethodId) (args : Array Value) (below : List Frame) (meth : Method) (c : Code) (Q : State → Prop) (ad : Int → Nat) (G : Nat → ClassId) (D : va_G) (A : Nat → Prop) (nL own : Nat) (cc : ByteArray) (B : List (Nat × Instr × Nat)) (cells slots : Nat),
  ex MT n d C rt pc L st m = some (v, m') → CX NWL p R s mid args c (OWNN own) cc ad G D A nL → Sc NWL ad A s s.heap m → Tab own cc C B → StOk L st m → d + 10 ≤ R.frames → 64 * (d + 10) ≤ R.locals → cells ≤ R.cells → slots ≤ R.slots →
  (Mok m' ∧ (∀ w, v = some w → Vok w) ∧ (∀ z, m' 500 z = m 500 z) ∧ (∀ z, m' 501 z = m 501 z)) ∧
  ((∀ (j : Nat) (i : Instr) (L' st' : List Vv), C[j]? = some i → ret1 i rt st' = some v → Go p l e R s mid args below meth c Q ad G D A nL cells slots (bpOf B j) L' st' m') → Go p l e R s mid args below meth c Q ad G D A nL cells slots (bpOf B pc) L st m)

theorem WT_good {w : Cond} (h : w ∈ WT) : goodWord w = true := (List.mem_filter.mp h).2
theorem goodWT {w0 : Cond} (h0 : w0 ∈ WT) : GoodIn WT (w0 :: WT) := fun w hw => by
  rcases List.mem_cons.mp hw with rfl | hw
  · exact ⟨h0, good_of_word (WT_good h0)⟩
  · exact ⟨hw, good_of_word (WT_good hw)⟩
def rmD (d : Nat) : Room := { frames := d + 10, cells := 0, slots := 0, locals := 64 * (d + 10) }
/-- a method's contract, out of what runs of its length give -/
theorem met_of {MT : List MI} {n d k sz : Nat} {M : MI} {S : MSr} {a : List Vv} {m m' : Mm} {v : Option Vv} (IH : SND MT n) (hM : MOK k M S) (l : Launch) (ad : Int → Nat) (G : Nat → ClassId) (D : va_G) (h : ex MT n d M.2.2.2 M.2.1 0 (ent a M.2.2.1) [] m = some (v, m')) (ha : a.map (fun v => v.1) = M.1) (hV : ∀ v ∈ a, Vok v) (hm : Mok m) :
    Met l S.1 (Cond.code S.1 S.2.1 M.2.2.1 S.2.2.1 :: WT) (rmD d) (Pk ad G D a m sz) (Qk ad G D v m' (va_A (WS ad G m) sz)) 0 0 (va_A (WS ad G m) sz) := by
  obtain ⟨hstk0, hp1, hy, hown, hcode, hini, hnames, hst, hin, hret, h40, hsum, hT, hB0, hb0⟩ := hM
  refine Met.ofW (cc := S.2.1) (maxL := M.2.2.1) (ret := S.2.2.1) hp1 rfl ?_
  intro p e s mid args below meth c s₁ B hml hv
  obtain ⟨rfl, hsz, hP, hK, hD0, hSc⟩ := hv
  have hts0 := atoms_spec (ws := Cond.code S.1 S.2.1 M.2.2.1 S.2.2.1 :: WT) B.pre
  have hfc : s.vm.findClass S.1.cls = some mid.cls := findClass_of_methodNamed B.named
  subst hsz
  have hD := hD0.self (sz := s.heap.size)
  have K : CX NWL p (headSpec (Cond.code S.1 S.2.1 M.2.2.1 S.2.2.1 :: WT) (rmD d)).room s mid ((a.map (cv ad)).toArray) c (OWNN S.2.2.2.2.1) S.2.1 ad G D (va_A (WS ad G m) s.heap.size) M.2.2.1 :=
    ⟨B.exec, B.bytes, hml, by rw [hown]; exact hfc, fun w hw => hts0 w (List.mem_cons_of_mem _ hw), hK, fun q hq => Or.inr hq, by show 1 ≤ d + 10; omega, by show 64 ≤ 64 * (d + 10); omega, hSc.2.2.2.2.2.2.2.2⟩
  have hlen : (entL a).length ≤ M.2.2.1 := by
    rw [(ent_len ad a).2]
    have e1 : a.map (fun v => tagW v.1) = M.1.map tagW := by rw [← ha, List.map_map]; rfl
    rw [e1]
    exact hsum
  have hfin := (IH d M.2.2.2 M.2.1 0 (ent a M.2.2.1) [] m v m' p l e _ s mid _ below meth c (MQ below (Qk ad G D v m' (va_A (WS ad G m) s.heap.size)) ((a.map (cv ad)).toArray) s 0 0 (va_A (WS ad G m) s.heap.size)) ad G D _ M.2.2.1 S.2.2.2.2.1 S.2.1 S.2.2.2.2.2 0 0 h K hSc hT ⟨ent_ok hV, (fun _ z => by cases z), hm⟩ (Nat.le_refl _) (Nat.le_refl _) (Nat.zero_le _) (Nat.zero_le _)).2
    (fun j i L' st' hj hr => ret_go K B.returns B.notSynchronized hret hT hj hr)
  have := hfin s.heap [] _ hP hD va_S.rf (LH_ent ad a hlen)
  rw [hb0] at this
  rw [lg_entry_eq]
  exact this

theorem ex_call {MT : List MI} {n d : Nat} {C : List Instr} {rt pc k : Nat} {L st : List Vv} {m : Mm} (h : C[pc]? = some (.invokestatic k)) : ex MT (n + 1) d C rt pc L st m =
    match d, MT[k]? with
        | d' + 1, some M =>
          if ((st.take M.1.length).reverse.map (fun v => v.1)) = M.1 ∧ catS (st.drop M.1.length) ≤ 8 then
            match ex MT n d' M.2.2.2 M.2.1 0 (ent (st.take M.1.length).reverse M.2.2.1) [] m with
            | some (v, m') => ex MT n d C rt (pc + 1) L (v.toList ++ st.drop M.1.length) m'
            | none => none
          else none
        | _, _ => none := by
  rw [ex, h]
  rfl
theorem ex_other {MT : List MI} {n d : Nat} {C : List Instr} {rt pc : Nat} {L st : List Vv} {m : Mm} {i : Instr} (h : C[pc]? = some i) (hi : ∀ k, i ≠ .invokestatic k) : ex MT (n + 1) d C rt pc L st m =
    match ret1 i rt st with
        | some v => some (v, m)
        | none =>
          match st1 i pc L st m with
          | some (pc', L', st', m') => ex MT n d C rt pc' L' st' m'
          | none => none := by
  rw [ex, h]
  cases i <;> first | rfl | exact absurd rfl (hi _)
theorem ret1_ok {i : Instr} {rt : Nat} {st : List Vv} {v : Option Vv} (h : ret1 i rt st = some v) (hV : ∀ w ∈ st, Vok w) : ∀ w, v = some w → Vok w := by
  intro w hw
  subst hw
  cases i with
  | ireturn =>
    simp only [ret1] at h
    split at h
    · split at h
      · cases h; exact hV _ List.mem_cons_self
      · split at h
        · split at h
          · cases h; exact hV _ List.mem_cons_self
          · cases h
        · cases h
    · cases h
  | lreturn =>
    simp only [ret1] at h
    split at h
    · split at h
      · cases h; exact hV _ List.mem_cons_self
      · cases h
    · cases h
  | areturn =>
    simp only [ret1] at h
    split at h
    · split at h
      · cases h; exact hV _ List.mem_cons_self
      · cases h
    · cases h
  | return_ =>
    simp only [ret1] at h
    split at h
    · split at h <;> cases h
    · cases h
  | _ => simp [ret1] at h
theorem pure_run {MT : List MI} {MS : List MSr} (hTabs : Tabs MT MS) : ∀ (n d : Nat) (C : List Instr) (rt pc : Nat) (L st : List Vv) (m : Mm) (v : Option Vv) (m' : Mm) (own : Nat) (cc : ByteArray) (B : List (Nat × Instr × Nat)), ex MT n d C rt pc L st m = some (v, m') → Tab own cc C B → ScP m → StOk L st m → Mok m' ∧ (∀ w, v = some w → Vok w) ∧ (∀ z, m' 500 z = m 500 z) ∧ (∀ z, m' 501 z = m 501 z) := by
  intro n
  induction n with
  | zero => intro d C rt pc L st m v m' own cc B h; simp [ex] at h
  | succ n IH =>
    intro d C rt pc L st m v m' own cc B h T S hV
    cases hC : C[pc]? with
    | none => simp [ex, hC] at h
    | some i =>
      have hpl : pc < B.length := by rw [← T.1]; exact (List.getElem?_eq_some_iff.mp hC).1
      obtain ⟨b, hb⟩ : ∃ b, B[pc]? = some b := ⟨B[pc], List.getElem?_eq_getElem hpl⟩
      obtain ⟨hdec, hok⟩ := T.2 pc i b hC hb
      by_cases hcall : ∃ k, i = .invokestatic k
      · obtain ⟨k, rfl⟩ := hcall
        rw [ex_call hC] at h
        cases d with
        | zero => simp at h
        | succ d =>
          cases hMk : MT[k]? with
          | none => simp [hMk] at h
          | some M =>
            simp only [hMk] at h
            split at h
            · cases hrun : ex MT n d M.2.2.2 M.2.1 0 (ent (st.take M.1.length).reverse M.2.2.1) [] m with
              | none => simp [hrun] at h
              | some q =>
                obtain ⟨v1, m1⟩ := q
                simp only [hrun] at h
                obtain ⟨S9, hS9, hMOK⟩ := hTabs k M hMk
                obtain ⟨hVL, hVs, hM⟩ := hV
                have hVa : ∀ v ∈ (st.take M.1.length).reverse, Vok v := fun v hv => hVs v (List.mem_of_mem_take (List.mem_reverse.mp hv))
                have hVr : ∀ v ∈ st.drop M.1.length, Vok v := fun v hv => hVs v (List.mem_of_mem_drop hv)
                obtain ⟨-, -, -, -, -, -, -, -, -, -, -, -, hT9, -, -⟩ := hMOK
                obtain ⟨p1, p2, p3, p4⟩ := IH d M.2.2.2 M.2.1 0 _ [] m v1 m1 _ _ _ hrun hT9 S ⟨ent_ok hVa, (fun _ z => by cases z), hM⟩
                have hV1 : StOk L (v1.toList ++ st.drop M.1.length) m1 := ⟨hVL, fun w hw => by
                  rcases List.mem_append.mp hw with hw | hw
                  · exact p2 w (by cases v1 with
                      | none => cases hw
                      | some z => rw [List.mem_singleton.mp hw])
                  · exact hVr w hw, p1⟩
                have S1 : ScP m1 := by
                  obtain ⟨⟨Ls, xs, a4, a5, a6⟩, ⟨ys, b4⟩⟩ := S
                  exact ⟨⟨Ls, xs, by rw [p3]; exact a4, a5, fun j hj => by rw [p3]; exact a6 j hj⟩, ⟨ys, fun j hj => by rw [p4]; exact b4 j hj⟩⟩
                obtain ⟨q1, q2, q3, q4⟩ := IH (d + 1) C rt (pc + 1) L _ m1 v m' own cc B h T S1 hV1
                exact ⟨q1, q2, fun z => (q3 z).trans (p3 z), fun z => (q4 z).trans (p4 z)⟩
            · cases h
      · rw [ex_other hC (fun k z => hcall ⟨k, z⟩)] at h
        cases hr : ret1 i rt st with
        | some v0 =>
          simp only [hr, Option.some.injEq, Prod.mk.injEq] at h
          obtain ⟨rfl, rfl⟩ := h
          exact ⟨hV.2.2, ret1_ok hr hV.2.1, fun _ => rfl, fun _ => rfl⟩
        | none =>
          simp only [hr] at h
          cases hs1 : st1 i pc L st m with
          | none => simp [hs1] at h
          | some q =>
            obtain ⟨pc1, L1, st1', m1⟩ := q
            simp only [hs1] at h
            obtain ⟨a1, ⟨p3, p4⟩, a4, a5⟩ := step_pure S hok hV hs1
            have S1 : ScP m1 := by
              obtain ⟨⟨Ls, xs, a4, a5, a6⟩, ⟨ys, b4⟩⟩ := S
              exact ⟨⟨Ls, xs, by rw [p3]; exact a4, a5, fun j hj => by rw [p3]; exact a6 j hj⟩, ⟨ys, fun j hj => by rw [p4]; exact b4 j hj⟩⟩
            obtain ⟨q1, q2, q3, q4⟩ := IH d C rt pc1 L1 st1' m1 v m' own cc B h T S1 a1
            exact ⟨q1, q2, fun z => (q3 z).trans (p3 z), fun z => (q4 z).trans (p4 z)⟩
theorem Sc_P {ad : Int → Nat} {A : Nat → Prop} {s : State} {H : Heap} {m : Mm} (h : Sc NWL ad A s H m) : ScP m := by
  obtain ⟨⟨Ls, xs, a1, a2, a3, a4, a5, a6⟩, ⟨ys, b1, b2, b3, b4⟩, r⟩ := h
  exact ⟨⟨Ls, xs, a4, a5, a6⟩, ⟨ys, b4⟩⟩
set_option maxRecDepth 100000 in
set_option maxHeartbeats 4000000 in
theorem sound {MT : List MI} {MS : List MSr} (hTabs : Tabs MT MS) (hSTR : STR) : ∀ n, SND MT n := by
  intro n
  induction n with
  | zero =>
    intro d C rt pc L st m v m' p l e R s mid args below meth c Q ad G D A nL own cc B cells slots h
    simp [ex] at h
  | succ n IH =>
    intro d C rt pc L st m v m' p l e R s mid args below meth c Q ad G D A nL own cc B cells slots h K S T hV hfr hlo hce hsl
    cases hC : C[pc]? with
    | none => simp [ex, hC] at h
    | some i =>
      have hpl : pc < B.length := by rw [← T.1]; exact (List.getElem?_eq_some_iff.mp hC).1
      obtain ⟨b, hb⟩ : ∃ b, B[pc]? = some b := ⟨B[pc], List.getElem?_eq_getElem hpl⟩
      obtain ⟨hdec, hok⟩ := T.2 pc i b hC hb
      by_cases hcall : ∃ k, i = .invokestatic k
      · obtain ⟨k, rfl⟩ := hcall
        rw [ex_call hC] at h
        cases d with
        | zero => simp at h
        | succ d =>
          cases hMk : MT[k]? with
          | none => simp [hMk] at h
          | some M =>
            simp only [hMk] at h
            split at h
            · rename_i hcond
              obtain ⟨htags, hcat⟩ := hcond
              cases hrun : ex MT n d M.2.2.2 M.2.1 0 (ent (st.take M.1.length).reverse M.2.2.1) [] m with
              | none => simp [hrun] at h
              | some q =>
                obtain ⟨v1, m1⟩ := q
                simp only [hrun] at h
                obtain ⟨S9, hS9, hMOK⟩ := hTabs k M hMk
                obtain ⟨hVL, hVs, hM⟩ := hV
                have hVa : ∀ v ∈ (st.take M.1.length).reverse, Vok v := fun v hv => hVs v (List.mem_of_mem_take (List.mem_reverse.mp hv))
                have hVr : ∀ v ∈ st.drop M.1.length, Vok v := fun v hv => hVs v (List.mem_of_mem_drop hv)
                simp only [okE, okN, Bool.and_eq_true, Bool.or_eq_true, decide_eq_true_eq] at hok
                obtain ⟨⟨n1, n2⟩, ⟨h2, hml⟩, hraw⟩ := hok
                have hT9 := hMOK.2.2.2.2.2.2.2.2.2.2.2.2.1
                obtain ⟨p1, p2, p3, p4⟩ := pure_run hTabs n d M.2.2.2 M.2.1 0 _ [] m v1 m1 _ _ _ hrun hT9 (Sc_P S) ⟨ent_ok hVa, (fun _ z => by cases z), hM⟩
                have S1 : Sc NWL ad A s s.heap m1 := Sc_ro S p3 p4
                have hV1 : StOk L (v1.toList ++ st.drop M.1.length) m1 := ⟨hVL, fun w hw => by
                  rcases List.mem_append.mp hw with hw | hw
                  · exact p2 w (by cases v1 with
                      | none => cases hw
                      | some z => rw [List.mem_singleton.mp hw])
                  · exact hVr w hw, p1⟩
                obtain ⟨q1, q2⟩ := IH (d + 1) C rt (pc + 1) L (v1.toList ++ st.drop M.1.length) m1 v m' p l e R s mid args below meth c Q ad G D A nL own cc B cells slots h K S1 T hV1 hfr hlo hce hsl
                refine ⟨⟨q1.1, q1.2.1, fun z => (q1.2.2.1 z).trans (p3 z), fun z => (q1.2.2.2 z).trans (p4 z)⟩, fun fin => ?_⟩
                have g1 := q2 fin
                rw [n2, h2] at g1
                rw [bpOf_at hb]
                intro H locs ls hP hD hS hL
                have hMet := met_of (sz := H.size) IH hMOK l ad G D hrun htags hVa hM
                obtain ⟨hstk9, hp1, hy, hown9, hcode, hini, hnames, hst, hin, hret, h40, hsum, hT9, hB0, hb0⟩ := hMOK
                have hF : ∀ q, va_A (WS ad G m) H.size q → A q := fun q hq => by
                  rcases hq with ⟨k9, e9, hk9⟩ | hq
                  · exact hD.2 k9 _ hk9
                  · exact K.2.2.2.2.2.2.1 q (Nat.le_trans hS.1 hq)
                have hScH : Sc NWL ad (va_A (WS ad G m) H.size) s H m := Sc_narrow (Sc_kept S hS.1 hS.2.1) hF
                have hPk : ∀ U : State, U.heap = H → s.WarmedH U.vm → Pk ad G D (st.take M.1.length).reverse m H.size ((st.take M.1.length).reverse.map (cv ad)).toArray U := fun U hU hW => ⟨rfl, by rw [hU], by rw [hU]; exact hP, va_K.moved hW.alike K.2.2.2.2.2.1, hD.weaken (fun _ _ _ _ => trivial), by rw [hU]; exact Sc_warm hW hScH⟩
                have hblind : FrameBlind (Pk ad G D (st.take M.1.length).reverse m H.size) := fun a U g mk q => by
                  obtain ⟨z0, z1, z2, z3, z4, z5⟩ := q
                  exact ⟨z0, z1, z2, va_K.moved (u := U) (U := U.calling g mk a) (Vm.Alike.refl U.vm) z3, z4, Sc_same (u := U) (U := U.calling g mk a) rfl z5⟩
                have hfix : CallFix p mid c cc nL s args WT (OWNN own) := ⟨K.1, K.2.1, K.2.2.1, K.2.2.2.1, K.2.2.2.2.1⟩
                have hrest : 2 * (F0 mid b.1 ls (st.map (cv ad))).monitorRoom + (((st.drop M.1.length).map (cv ad)).map fun v => v.category).sum ≤ 8 := lv_room (by rw [catS_map]; exact hcat)
                have hstk : st.map (cv ad) = ((st.take M.1.length).reverse.map (cv ad)).reverse ++ (st.drop M.1.length).map (cv ad) := by
                  rw [← List.map_reverse, List.reverse_reverse, ← List.map_append, List.take_append_drop]
                have hlink : (Cond.methodLink (OWNN own) (px b.2.1) S9.1).before args s = true := by
                  have := MLT_w hml
                  simp only [hy] at this
                  exact K.2.2.2.2.1 _ this
                have hparams : ∀ {N : Nat}, (parseMethodDescriptor S9.1.desc).map (fun d => d.parameters.length) = some N → ∀ sig, parseMethodDescriptor S9.1.desc = some sig → N = sig.parameters.length := fun hN sig hs => by
                  rw [hs] at hN
                  exact (Option.some.inj hN).symm
                have hr1 : (rmD d).frames + 1 ≤ R.frames := by show d + 10 + 1 ≤ R.frames; omega
                have hr2 : 8 + (M.2.2.1 + 11) + (rmD d).locals ≤ R.locals := by show 8 + (M.2.2.1 + 11) + 64 * (d + 10) ≤ R.locals; omega
                have hCB : ∀ {N : Nat}, (parseMethodDescriptor S9.1.desc).map (fun d => d.parameters.length) = some N → CallB R s args (OWNN own) (px b.2.1) S9.1 S9.2.1 M.2.2.1 S9.2.2.1 (Cond.code S9.1 S9.2.1 M.2.2.1 S9.2.2.1 :: WT) (rmD d) 0 0 N := fun hN =>
                  ⟨rfl, rfl, hr1, hr2, pay_in K.2.2.2.2.1 (goodWT hcode), List.mem_cons_self, K.2.2.2.2.1 _ hcode, K.2.2.2.2.1 _ hini, hnames, hparams hN, hlink⟩
                have hkk : ∀ (H1 : Heap) (locs1 : List Loc), va_P D vwCl (WS ad G m1) H1 → va_D (va_A (WS ad G m) H.size) (WS ad G m1) → va_S A s.heap H1 locs1 → W p l e R s mid args below meth c H1 locs1 cells slots Q (F0 mid (b.1 + 3) ls ((v1.map (cv ad)).toList ++ (st.drop M.1.length).map (cv ad))) := fun H1 locs1 z1 z2 z3 => by
                  have := g1 H1 locs1 ls z1 (z2.weaken (fun _ _ _ z => hF _ z)) z3 hL
                  rw [List.map_append] at this
                  have e9 : v1.toList.map (cv ad) = (v1.map (cv ad)).toList := by cases v1 <;> rfl
                  rw [e9] at this
                  exact this
                cases hstatic : S9.2.2.2.1 with
                | true =>
                  obtain ⟨hsw, hN⟩ := hst hstatic
                  have hraw2 : b.2.1 = .invokestatic (px b.2.1) := by
                    rcases hraw with hraw | hraw
                    · exact hraw.1
                    · exact absurd (hstk9.mp hstatic) hraw.2
                  have hr := va_runS (R := R) (H := H) (locs := locs) (cells := cells) (slots := slots) (l := l) (e := e) (below := below) (meth := meth) (As := (st.take M.1.length).reverse.map (cv ad)) (rest := (st.drop M.1.length).map (cv ad)) (g := F0 mid b.1 ls (st.map (cv ad))) hfix hMet ⟨hCB hN, K.2.2.2.2.1 _ hsw⟩ ⟨hblind, hPk⟩ rfl (by have z9 := congrArg List.length htags; rw [List.length_map] at z9; rw [List.length_map]; exact z9) hL.2.1 hstk hrest (dec_of hdec hraw2 h2) ⟨hce, hsl⟩
                  exact run_go hr hS (fun q _ z => hF q z) hF hkk
                | false =>
                  obtain ⟨hiw, hsw, ci, tl, hM1, hc9, hCR, hN⟩ := hin hstatic
                  have hraw2 : b.2.1 = .invokevirtual (px b.2.1) := by
                    rcases hraw with hraw | hraw
                    · exact absurd (hstk9.mpr hraw.2) (by rw [hstatic]; exact Bool.false_ne_true)
                    · exact hraw.1
                  obtain ⟨o, as, hae⟩ : ∃ (o : Int) (as : List Vv), (st.take M.1.length).reverse = (ci + 10, o) :: as := by
                    cases hz : (st.take M.1.length).reverse with
                    | nil => rw [hz, hM1] at htags; cases htags
                    | cons x y =>
                      rw [hz, hM1] at htags
                      simp only [List.map_cons, List.cons.injEq] at htags
                      exact ⟨x.2, y, by rw [← htags.1]⟩
                  have hoU : (o, ci + 10) ∈ UNI := Vok_ob (hVa (ci + 10, o) (by rw [hae]; exact List.mem_cons_self)) (by omega)
                  have hao : (st.take M.1.length).reverse.map (cv ad) = .ref (ad o) :: as.map (cv ad) := by rw [hae, List.map_cons, cv_o ad o hoU]
                  obtain ⟨j9, hj9, hw9⟩ := WS_at (ad := ad) (G := G) (m := m) hoU
                  have hcell : cellOf ad G m (o, ci + 10) = .inr (ci, (List.range (CN ci)).map (fv ad m o ci)) := by
                    rw [cell_ob (show ci + 10 < 100 by omega)]
                    simp only [Nat.add_sub_cancel]
                  simp only at hw9
                  rw [hcell] at hw9
                  have hrecv := va_recv K.2.2.2.2.2.1 hP (cl_at ci hc9) hw9
                  simp only [hCR] at hrecv
                  have hlen : (as.map (cv ad)).length = tl.length := by
                    have := htags
                    rw [hae, hM1] at this
                    simp only [List.map_cons, List.cons.injEq] at this
                    rw [List.length_map, ← this.2, List.length_map]
                  have hr := va_runV (R := R) (H := H) (locs := locs) (cells := cells) (slots := slots) (l := l) (e := e) (below := below) (meth := meth) (b := ad o) (As := as.map (cv ad)) (rest := (st.drop M.1.length).map (cv ad)) (g := F0 mid b.1 ls (st.map (cv ad))) hfix hMet ⟨hCB hN, K.2.2.2.2.1 _ hiw, K.2.2.2.2.1 _ hsw⟩ ⟨hblind, hrecv, by rw [← hao]; exact hPk⟩ rfl hlen hL.2.1 (by rw [hstk, hao, List.reverse_cons, List.append_assoc]; rfl) hrest (dec_of hdec hraw2 h2) ⟨hce, hsl⟩
                  exact run_go hr hS (fun q _ z => hF q z) hF hkk
            · cases h
      · rw [ex_other hC (fun k z => hcall ⟨k, z⟩)] at h
        cases hr : ret1 i rt st with
        | some v0 =>
          simp only [hr, Option.some.injEq, Prod.mk.injEq] at h
          obtain ⟨rfl, rfl⟩ := h
          exact ⟨⟨hV.2.2, ret1_ok hr hV.2.1, fun _ => rfl, fun _ => rfl⟩, fun fin => fin pc i L st hC hr⟩
        | none =>
          simp only [hr] at h
          cases hs1 : st1 i pc L st m with
          | none => simp [hs1] at h
          | some q =>
            obtain ⟨pc1, L1, st1', m1⟩ := q
            simp only [hs1] at h
            obtain ⟨a1, ⟨a2, a3⟩, a4, a5, a6⟩ := step_sound (l := l) (e := e) (below := below) (meth := meth) (Q := Q) (cells := cells) (slots := slots) K hce hsl S (fun z => hSTR p l e R s mid args below meth c Q ad G D A nL cells slots cc m (by rw [← z]; exact K) S (by omega) (by omega) hce hsl) hb hdec hok hV hs1
            obtain ⟨q1, q2⟩ := IH d C rt pc1 L1 st1' m1 v m' p l e R s mid args below meth c Q ad G D A nL own cc B cells slots h K (Sc_ro S a2 a3) T a1 hfr hlo hce hsl
            exact ⟨⟨q1.1, q1.2.1, fun z => (q1.2.2.1 z).trans (a2 z), fun z => (q1.2.2.2 z).trans (a3 z)⟩, fun fin => a6 (q2 fin)⟩
