/-! RUNS OF THE NUMBER MACHINE AS RELATIONS -/
theorem ex_mono (MT : List MI) : ∀ (n d : Nat) (C : List Instr) (rt pc : Nat) (L st : List Vv) (m : Mm) (r : Option Vv × Mm), ex MT n d C rt pc L st m = some r → ∀ n' d', n ≤ n' → d ≤ d' → ex MT n' d' C rt pc L st m = some r := by
  intro n
  induction n with
  | zero => intro d C rt pc L st m r h; simp [ex] at h
  | succ n IH =>
    intro d C rt pc L st m r h n' d' hn hd
    obtain ⟨n'', rfl⟩ : ∃ n'', n' = n'' + 1 := ⟨n' - 1, by omega⟩
    have hn2 : n ≤ n'' := by omega
    cases hC : C[pc]? with
    | none => simp [ex, hC] at h
    | some i =>
      by_cases hcall : ∃ k, i = .invokestatic k
      · obtain ⟨k, rfl⟩ := hcall
        rw [ex_call hC] at h ⊢
        cases d with
        | zero => simp at h
        | succ d =>
          obtain ⟨d'', rfl⟩ : ∃ d'', d' = d'' + 1 := ⟨d' - 1, by omega⟩
          cases hMk : MT[k]? with
          | none => simp [hMk] at h
          | some M =>
            simp only [hMk] at h ⊢
            split at h
            · rename_i hc
              rw [if_pos hc]
              cases hrun : ex MT n d M.2.2.2 M.2.1 0 (ent (st.take M.1.length).reverse M.2.2.1) [] m with
              | none => simp [hrun] at h
              | some q =>
                obtain ⟨v1, m1⟩ := q
                simp only [hrun] at h
                rw [IH d _ _ _ _ _ _ _ hrun n'' d'' hn2 (by omega)]
                exact IH (d + 1) _ _ _ _ _ _ _ h n'' (d'' + 1) hn2 hd
            · cases h
      · rw [ex_other hC (fun k z => hcall ⟨k, z⟩)] at h ⊢
        cases hr : ret1 i rt st with
        | some v => simp only [hr] at h ⊢; exact h
        | none =>
          simp only [hr] at h ⊢
          cases hs : st1 i pc L st m with
          | none => simp [hs] at h
          | some q =>
            obtain ⟨pc1, L1, st1', m1⟩ := q
            simp only [hs] at h ⊢
            exact IH d _ _ _ _ _ _ _ h n'' d' hn2 hd
def Ev (d : Nat) (C : List Instr) (rt pc : Nat) (L st : List Vv) (m : Mm) (r : Option Vv × Mm) : Prop := ∃ n, ex MT n d C rt pc L st m = some r
def Cl (d k : Nat) (a : List Vv) (m : Mm) (r : Option Vv × Mm) : Prop := ∃ M : MI, MT[k]? = some M ∧ a.map (fun v => v.1) = M.1 ∧ Ev d M.2.2.2 M.2.1 0 (ent a M.2.2.1) [] m r
theorem Ev.up {d d' : Nat} {C : List Instr} {rt pc : Nat} {L st : List Vv} {m : Mm} {r : Option Vv × Mm} (h : Ev d C rt pc L st m r) (hd : d ≤ d') : Ev d' C rt pc L st m r := by
  obtain ⟨n, hn⟩ := h
  exact ⟨n, ex_mono MT n d C rt pc L st m r hn n d' (Nat.le_refl _) hd⟩
theorem Cl.up {d d' k : Nat} {a : List Vv} {m : Mm} {r : Option Vv × Mm} (h : Cl d k a m r) (hd : d ≤ d') : Cl d' k a m r := by
  obtain ⟨M, h1, h2, h3⟩ := h
  exact ⟨M, h1, h2, h3.up hd⟩
def at_ : List Instr → Nat → Option Instr
  | [], _ => none
  | x :: _, 0 => some x
  | _ :: r, n + 1 => at_ r n
theorem at_eq : ∀ (C : List Instr) (j : Nat), at_ C j = C[j]? := by
  intro C
  induction C with
  | nil => intro j; simp [at_]
  | cons x r ih =>
    intro j
    cases j with
    | zero => rfl
    | succ j => simp [at_, ih]
theorem st1_ret {i : Instr} {pc rt : Nat} {L st : List Vv} {m : Mm} {q : Cf} (h : st1 i pc L st m = some q) : ret1 i rt st = none ∧ ∀ k, i ≠ .invokestatic k := by
  cases i with
  | invokestatic k => simp [st1] at h
  | ireturn => simp [st1] at h
  | lreturn => simp [st1] at h
  | areturn => simp [st1] at h
  | return_ => simp [st1] at h
  | _ => exact ⟨rfl, fun k z => by cases z⟩
theorem Ev_step {d : Nat} {C : List Instr} {rt pc : Nat} {L st : List Vv} {m : Mm} {r : Option Vv × Mm} {i : Instr} {q : Cf} (h : at_ C pc = some i) (hs : st1 i pc L st m = some q) (k : Ev d C rt q.1 q.2.1 q.2.2.1 q.2.2.2 r) : Ev d C rt pc L st m r := by
  obtain ⟨n, hn⟩ := k
  obtain ⟨h1, h2⟩ := st1_ret (rt := rt) hs
  refine ⟨n + 1, ?_⟩
  rw [at_eq] at h
  rw [ex_other h h2, h1]
  simp only [hs]
  exact hn
def rn : Nat → List Instr → Nat → List Vv → List Vv → Mm → Option Cf
  | 0, _, pc, L, st, m => some (pc, L, st, m)
  | j + 1, C, pc, L, st, m => match at_ C pc with
    | none => none
    | some i => match st1 i pc L st m with
      | none => none
      | some q => rn j C q.1 q.2.1 q.2.2.1 q.2.2.2
theorem Ev_rn {d : Nat} {C : List Instr} {rt : Nat} {r : Option Vv × Mm} : ∀ (j : Nat) {pc : Nat} {L st : List Vv} {m : Mm} {q : Cf}, rn j C pc L st m = some q → Ev d C rt q.1 q.2.1 q.2.2.1 q.2.2.2 r → Ev d C rt pc L st m r := by
  intro j
  induction j with
  | zero =>
    intro pc L st m q h k
    cases h
    exact k
  | succ j ih =>
    intro pc L st m q h k
    unfold rn at h
    cases ha : at_ C pc with
    | none => simp [ha] at h
    | some i =>
      simp only [ha] at h
      cases hs : st1 i pc L st m with
      | none => simp [hs] at h
      | some q1 =>
        simp only [hs] at h
        exact Ev_step ha hs (ih h k)
theorem Ev_ret {d : Nat} {C : List Instr} {rt pc : Nat} {L st : List Vv} {m : Mm} {r : Option Vv × Mm} {i : Instr} {v : Option Vv} (h : at_ C pc = some i) (hr : ret1 i rt st = some v) (he : r = (v, m)) : Ev d C rt pc L st m r := by
  subst he
  refine ⟨1, ?_⟩
  rw [at_eq] at h
  have hi : ∀ k, i ≠ .invokestatic k := by
    intro k z
    subst z
    simp [ret1] at hr
  rw [ex_other h hi, hr]
def cmpP (c : Jvm.ClassFile.Cond) (a b : Int) : Prop := match c with
  | .eq => a = b
  | .ne => ¬ a = b
  | .lt => a < b
  | .ge => b ≤ a
  | .gt => b < a
  | .le => a ≤ b
theorem cmpP_B {c : Jvm.ClassFile.Cond} {a b : Int} : cmpB c a b = true ↔ cmpP c a b := by cases c <;> simp [cmpB, cmpP]
theorem Ev_icmp {d : Nat} {C : List Instr} {rt pc : Nat} {L st : List Vv} {m : Mm} {r : Option Vv × Mm} {cd : Jvm.ClassFile.Cond} {t a b : Int} (h : at_ C pc = some (.if_icmp cd t)) (kt : cmpP cd a b → Ev d C rt t.toNat L st m r) (kf : ¬ cmpP cd a b → Ev d C rt (pc + 1) L st m r) : Ev d C rt pc L ((0, b) :: (0, a) :: st) m r := by
  refine Ev_step h rfl ?_
  show Ev d C rt (if cmpB cd a b = true then t.toNat else pc + 1) L st m r
  by_cases hc : cmpB cd a b = true
  · rw [if_pos hc]; exact kt (cmpP_B.mp hc)
  · rw [if_neg hc]; exact kf (fun z => hc (cmpP_B.mpr z))
theorem Ev_if {d : Nat} {C : List Instr} {rt pc : Nat} {L st : List Vv} {m : Mm} {r : Option Vv × Mm} {cd : Jvm.ClassFile.Cond} {t a : Int} (h : at_ C pc = some (.ifCond cd t)) (kt : cmpP cd a 0 → Ev d C rt t.toNat L st m r) (kf : ¬ cmpP cd a 0 → Ev d C rt (pc + 1) L st m r) : Ev d C rt pc L ((0, a) :: st) m r := by
  refine Ev_step h rfl ?_
  show Ev d C rt (if cmpB cd a 0 = true then t.toNat else pc + 1) L st m r
  by_cases hc : cmpB cd a 0 = true
  · rw [if_pos hc]; exact kt (cmpP_B.mp hc)
  · rw [if_neg hc]; exact kf (fun z => hc (cmpP_B.mpr z))
def tswP (X : Int → Prop) (d : Int) : Int → List Int → Int → Prop
  | _, [], _ => X d
  | lo, t :: r, x => (x = lo → X t) ∧ (¬ x = lo → tswP X d (lo + 1) r x)
theorem tswP_ok {X : Int → Prop} {d : Int} : ∀ {ts : List Int} {lo x : Int}, tswP X d lo ts x → X (tsw d lo ts x) := by
  intro ts
  induction ts with
  | nil => intro lo x h; exact h
  | cons t r ih =>
    intro lo x h
    unfold tsw
    split
    · rename_i hx; exact h.1 hx
    · rename_i hx; exact ih (h.2 hx)
def lswP (X : Int → Prop) (d : Int) : List (Int × Int) → Int → Prop
  | [], _ => X d
  | q :: r, x => (x = q.1 → X q.2) ∧ (¬ x = q.1 → lswP X d r x)
theorem lswP_ok {X : Int → Prop} {d : Int} : ∀ {ts : List (Int × Int)} {x : Int}, lswP X d ts x → X (lsw d ts x) := by
  intro ts
  induction ts with
  | nil => intro x h; exact h
  | cons t r ih =>
    intro x h
    unfold lsw
    split
    · rename_i hx; exact h.1 hx
    · rename_i hx; exact ih (h.2 hx)
theorem Ev_tsw {d : Nat} {C : List Instr} {rt pc : Nat} {L st : List Vv} {m : Mm} {r : Option Vv × Mm} {df lo hi x : Int} {ts : Array Int} (h : at_ C pc = some (.tableswitch df lo hi ts)) (k : tswP (fun t => Ev d C rt t.toNat L st m r) df lo ts.toList x) : Ev d C rt pc L ((0, x) :: st) m r := Ev_step h rfl (tswP_ok k)
theorem Ev_lsw {d : Nat} {C : List Instr} {rt pc : Nat} {L st : List Vv} {m : Mm} {r : Option Vv × Mm} {df x : Int} {ts : Array (Int × Int)} (h : at_ C pc = some (.lookupswitch df ts)) (k : lswP (fun t => Ev d C rt t.toNat L st m r) df ts.toList x) : Ev d C rt pc L ((0, x) :: st) m r := Ev_step h rfl (lswP_ok k)
theorem Ev_call {d : Nat} {C : List Instr} {rt pc k : Nat} {L st rest a : List Vv} {m m1 : Mm} {v : Option Vv} {r : Option Vv × Mm} (h : at_ C pc = some (.invokestatic k)) (hs : st = a.reverse ++ rest) (hc : catS rest ≤ 8) (hcl : Cl d k a m (v, m1)) (kk : Ev (d + 1) C rt (pc + 1) L (v.toList ++ rest) m1 r) : Ev (d + 1) C rt pc L st m r := by
  obtain ⟨M, h1, h2, n1, h3⟩ := hcl
  obtain ⟨n2, h4⟩ := kk
  refine ⟨max n1 n2 + 1, ?_⟩
  rw [at_eq] at h
  have hl : M.1.length = a.length := by rw [← h2, List.length_map]
  have e1 : (st.take M.1.length).reverse = a := by
    rw [hs, hl, ← List.length_reverse (as := a), List.take_left, List.reverse_reverse]
  have e2 : st.drop M.1.length = rest := by
    rw [hs, hl, ← List.length_reverse (as := a), List.drop_left]
  rw [ex_call h]
  simp only [h1, e1, e2]
  rw [if_pos ⟨h2, hc⟩, ex_mono MT n1 d _ _ _ _ _ _ _ h3 (max n1 n2) d (by omega) (Nat.le_refl _)]
  exact ex_mono MT n2 (d + 1) _ _ _ _ _ _ _ h4 (max n1 n2) (d + 1) (by omega) (Nat.le_refl _)
/-! rows with a test -/
section TESTED
variable {d : Nat} {C : List Instr} {rt pc : Nat} {L r0 : List Vv} {m : Mm} {r : Option Vv × Mm}
theorem Ev_iald {t : Nat} {o i n : Int} (h : at_ C pc = some .iaload) (ht : aty t = 0 ∧ t ≠ 50 ∧ t ≠ 51) (hn : aln t = n) (hi : 0 ≤ i ∧ i < n) (k : Ev d C rt (pc + 1) L ((0, m o i) :: r0) m r) : Ev d C rt pc L ((0, i) :: (t, o) :: r0) m r := by
  subst hn
  exact Ev_step (q := (pc + 1, L, (0, m o i) :: r0, m)) h (by simp only [st1, sld, if_neg ht.2.1, if_neg ht.2.2, ald, if_pos ht.1, if_pos hi]) k
theorem Ev_scr {o i : Int} (h : at_ C pc = some .iaload) (hi : 0 ≤ i ∧ i < m 500 (-1)) (k : Ev d C rt (pc + 1) L ((0, m 500 i) :: r0) m r) : Ev d C rt pc L ((0, i) :: (50, o) :: r0) m r :=
  Ev_step (q := (pc + 1, L, (0, m 500 i) :: r0, m)) h (by simp only [st1, sld, if_true, if_pos hi]) k
theorem Ev_tri {o i : Int} (h : at_ C pc = some .iaload) (hi : 0 ≤ i ∧ i < 4) (k : Ev d C rt (pc + 1) L ((0, m 501 i) :: r0) m r) : Ev d C rt pc L ((0, i) :: (51, o) :: r0) m r :=
  Ev_step (q := (pc + 1, L, (0, m 501 i) :: r0, m)) h (by simp [st1, sld, hi]) k
theorem Ev_lald {t : Nat} {o i n : Int} (h : at_ C pc = some .laload) (ht : aty t = 1) (hn : aln t = n) (hi : 0 ≤ i ∧ i < n) (k : Ev d C rt (pc + 1) L ((1, m o i) :: r0) m r) : Ev d C rt pc L ((0, i) :: (t, o) :: r0) m r := by
  subst hn
  exact Ev_step (q := (pc + 1, L, (1, m o i) :: r0, m)) h (by simp only [st1, ald, if_pos ht, if_pos hi]) k
theorem Ev_bald {t : Nat} {o i n : Int} (h : at_ C pc = some .baload) (ht : aty t = 2) (hn : aln t = n) (hi : 0 ≤ i ∧ i < n) (k : Ev d C rt (pc + 1) L ((0, m o i) :: r0) m r) : Ev d C rt pc L ((0, i) :: (t, o) :: r0) m r := by
  subst hn
  exact Ev_step (q := (pc + 1, L, (0, m o i) :: r0, m)) h (by simp only [st1, ald, if_pos ht, if_pos hi]) k
theorem Ev_aald3 {t : Nat} {o i n : Int} (h : at_ C pc = some .aaload) (ht : aty t = 3) (hn : aln t = n) (hi : 0 ≤ i ∧ i < n) (k : Ev d C rt (pc + 1) L ((13, o + 1 + 4 * i) :: r0) m r) : Ev d C rt pc L ((0, i) :: (t, o) :: r0) m r := by
  subst hn
  exact Ev_step (q := (pc + 1, L, (13, o + 1 + 4 * i) :: r0, m)) h (by simp only [st1, rld, if_pos ht, if_pos hi]; rfl) k
theorem Ev_aald4 {t : Nat} {o i n : Int} (h : at_ C pc = some .aaload) (ht : aty t = 4) (hn : aln t = n) (hi : 0 ≤ i ∧ i < n) (k : Ev d C rt (pc + 1) L ((16, o + 13 + 8 * i) :: r0) m r) : Ev d C rt pc L ((0, i) :: (t, o) :: r0) m r := by
  subst hn
  have h3 : ¬ aty t = 3 := by omega
  exact Ev_step (q := (pc + 1, L, (16, o + 13 + 8 * i) :: r0, m)) h (by simp only [st1, rld, if_neg h3, if_pos ht, if_pos hi]; rfl) k
theorem Ev_iast {t : Nat} {o i v n : Int} (h : at_ C pc = some .iastore) (ht : aty t = 0) (hn : aln t = n) (hi : 0 ≤ i ∧ i < n) (k : Ev d C rt (pc + 1) L r0 (up m o i v) r) : Ev d C rt pc L ((0, v) :: (0, i) :: (t, o) :: r0) m r := by
  subst hn
  exact Ev_step (q := (pc + 1, L, r0, up m o i v)) h (by simp only [st1, ast, if_true, if_pos ht, if_pos hi]) k
theorem Ev_last {t : Nat} {o i v n : Int} (h : at_ C pc = some .lastore) (ht : aty t = 1) (hn : aln t = n) (hi : 0 ≤ i ∧ i < n) (k : Ev d C rt (pc + 1) L r0 (up m o i v) r) : Ev d C rt pc L ((1, v) :: (0, i) :: (t, o) :: r0) m r := by
  subst hn
  exact Ev_step (q := (pc + 1, L, r0, up m o i v)) h (by simp only [st1, ast, if_true, if_pos ht, if_pos hi]) k
theorem Ev_bast {t : Nat} {o i v n : Int} (h : at_ C pc = some .bastore) (ht : aty t = 2) (hn : aln t = n) (hv : v = 0 ∨ v = 1) (hi : 0 ≤ i ∧ i < n) (k : Ev d C rt (pc + 1) L r0 (up m o i v) r) : Ev d C rt pc L ((0, v) :: (0, i) :: (t, o) :: r0) m r := by
  subst hn
  exact Ev_step (q := (pc + 1, L, r0, up m o i v)) h (by simp only [st1, bst, if_pos ht, if_pos (And.intro hv hi)]) k
theorem Ev_ptz {c k : Nat} {o v : Int} (h : at_ C pc = some (.invokeinterface c k)) (hf : k < CN c ∧ FT c k = 2) (hv : v = 0 ∨ v = 1) (kk : Ev d C rt (pc + 1) L r0 (up m o k v) r) : Ev d C rt pc L ((0, v) :: (c + 10, o) :: r0) m r := by
  have h0 : ¬ (FT c k = 0 ∧ (0 : Nat) = 0) := by omega
  have h1 : ¬ (FT c k = 1 ∧ (0 : Nat) = 1) := by omega
  exact Ev_step (q := (pc + 1, L, r0, up m o k v)) h (by simp [st1, ptf, hf.1, hf.2, hv]) kk
theorem Ev_idiv {a b : Int} (h : at_ C pc = some .idiv) (hb : b ≠ 0) (k : Ev d C rt (pc + 1) L ((0, idv a b) :: r0) m r) : Ev d C rt pc L ((0, b) :: (0, a) :: r0) m r :=
  Ev_step (q := (pc + 1, L, (0, idv a b) :: r0, m)) h (by simp only [st1, bd2, if_neg hb]) k
theorem Ev_irem {a b : Int} (h : at_ C pc = some .irem) (hb : b ≠ 0) (k : Ev d C rt (pc + 1) L ((0, irm a b) :: r0) m r) : Ev d C rt pc L ((0, b) :: (0, a) :: r0) m r :=
  Ev_step (q := (pc + 1, L, (0, irm a b) :: r0, m)) h (by simp only [st1, bd2, if_neg hb]) k
theorem Ev_ldiv {a b : Int} (h : at_ C pc = some .ldiv) (hb : b ≠ 0) (k : Ev d C rt (pc + 1) L ((1, ldv a b) :: r0) m r) : Ev d C rt pc L ((1, b) :: (1, a) :: r0) m r :=
  Ev_step (q := (pc + 1, L, (1, ldv a b) :: r0, m)) h (by simp only [st1, bq2, if_neg hb]) k
theorem Ev_lrem {a b : Int} (h : at_ C pc = some .lrem) (hb : b ≠ 0) (k : Ev d C rt (pc + 1) L ((1, lrm a b) :: r0) m r) : Ev d C rt pc L ((1, b) :: (1, a) :: r0) m r :=
  Ev_step (q := (pc + 1, L, (1, lrm a b) :: r0, m)) h (by simp only [st1, bq2, if_neg hb]) k
theorem Ev_acp {ts td : Nat} {s sp dd dp n ls ld : Int} (h : at_ C pc = some (.invokedynamic 0)) (ht : aty ts = 0 ∧ aty td = 0) (hl : aln ts = ls ∧ aln td = ld) (hi : 0 ≤ n ∧ 0 ≤ sp ∧ 0 ≤ dp ∧ sp + n ≤ ls ∧ dp + n ≤ ld) (k : Ev d C rt (pc + 1) L [] (cpy m s sp dd dp n) r) : Ev d C rt pc L [(0, n), (0, dp), (td, dd), (0, sp), (ts, s)] m r := by
  obtain ⟨rfl, rfl⟩ := hl
  exact Ev_step (q := (pc + 1, L, [], cpy m s sp dd dp n)) h (by simp only [st1, if_true, acp, if_pos ht, if_pos hi]) k
theorem Ev_char {i y : Int} (h : at_ C pc = some (.invokedynamic 2)) (hi : 0 ≤ i ∧ i < 125) (k : Ev d C rt (pc + 1) L [(0, wchar i)] m r) : Ev d C rt pc L [(0, i), (52, y)] m r :=
  Ev_step (q := (pc + 1, L, [(0, wchar i)], m)) h (by simp [st1, hi]) k
theorem Ev_idx {x y : Int} (h : at_ C pc = some (.invokedynamic 3)) (hi : 0 ≤ x ∧ x < 65536) (k : Ev d C rt (pc + 1) L [(0, idxOf SIGNSL x 0)] m r) : Ev d C rt pc L [(0, x), (53, y)] m r :=
  Ev_step (q := (pc + 1, L, [(0, idxOf SIGNSL x 0)], m)) h (by simp [st1, hi]) k
theorem Ev_zret {v : Int} (h : at_ C pc = some .ireturn) (hr : rt = 2) (hv : v = 0 ∨ v = 1) (he : r = (some (0, v), m)) : Ev d C rt pc L [(0, v)] m r := by
  subst hr
  exact Ev_ret h (by simp [ret1, hv]) he
end TESTED
