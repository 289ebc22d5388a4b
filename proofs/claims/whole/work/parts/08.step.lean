/-! THE CHECK OF A CODE TABLE, AND ONE STEP OF IT -/
def bpOf (B : List (Nat × Instr × Nat)) (j : Nat) : Nat := (B.getD j (0, .nop, 0)).1
def okN (B : List (Nat × Instr × Nat)) (j : Nat) (b : Nat × Instr × Nat) : Bool := decide (j + 1 < B.length ∧ bpOf B (j + 1) = b.1 + b.2.2)
def okT (B : List (Nat × Instr × Nat)) (b : Nat × Instr × Nat) (off t : Int) : Bool := decide (0 ≤ t ∧ t.toNat < B.length ∧ (b.1 : Int) + off = (bpOf B t.toNat : Int))
def px (i : Instr) : Nat := match i with
  | .ldc n => n
  | .ldc_w n => n
  | .ldc2_w n => n
  | .getfield n => n
  | .putfield n => n
  | .invokestatic n => n
  | .invokevirtual n => n
  | .getstatic n => n
  | _ => 0
def brOff (i : Instr) : Int := match i with
  | .goto o => o
  | .if_icmp _ o => o
  | .ifCond _ o => o
  | _ => 0
def tsRaw (i : Instr) : Int × Int × Int × Array Int := match i with
  | .tableswitch d lo hi ts => (d, lo, hi, ts)
  | _ => (0, 0, 0, #[])
def lkRaw (i : Instr) : Int × Array (Int × Int) := match i with
  | .lookupswitch d ps => (d, ps)
  | _ => (0, #[])
/-- the texts' own methods by the reader's pool: length 1, charAt 2, indexOf 3 -/
def STT : List (Nat × Nat) := [(168, 1), (172, 2), (184, 3)]
def okE (own : Nat) (B : List (Nat × Instr × Nat)) (j : Nat) (b : Nat × Instr × Nat) (res : Instr) : Bool := match res with
  | .iconst v => okN B j b && (decide (-2147483648 ≤ v ∧ v ≤ 2147483647) && (decide (b.2.1 = .iconst v ∧ b.2.2 = 1) || (decide (b.2.1 = .bipush v ∧ b.2.2 = 2 ∧ (Int8.ofInt v).toInt32 = Int32.ofInt v) || (decide (b.2.1 = .sipush v ∧ b.2.2 = 3 ∧ (Int16.ofInt v).toInt32 = Int32.ofInt v) || (decide (b.2.1 = .ldc (px b.2.1) ∧ b.2.2 = 2 ∧ (own, px b.2.1, v) ∈ CIT) || decide (b.2.1 = .ldc_w (px b.2.1) ∧ b.2.2 = 3 ∧ (own, px b.2.1, v) ∈ CIT))))))
  | .bipush v => okN B j b && (decide (-9223372036854775808 ≤ v ∧ v ≤ 9223372036854775807) && (decide (∃ n : Fin 2, b.2.1 = .lconst n ∧ b.2.2 = 1 ∧ Int64.ofNat (n : Nat) = Int64.ofInt v) || decide (b.2.1 = .ldc2_w (px b.2.1) ∧ b.2.2 = 3 ∧ (own, px b.2.1, v) ∈ CLT)))
  | .iload i => okN B j b && (decide (b.2.1 = .iload i ∧ b.2.2 = 2) || decide (∃ n : Fin 4, b.2.1 = .iload_n n ∧ b.2.2 = 1 ∧ (n : Nat) = i))
  | .istore i => okN B j b && (decide (b.2.1 = .istore i ∧ b.2.2 = 2) || decide (∃ n : Fin 4, b.2.1 = .istore_n n ∧ b.2.2 = 1 ∧ (n : Nat) = i))
  | .lload i => okN B j b && (decide (b.2.1 = .lload i ∧ b.2.2 = 2) || decide (∃ n : Fin 4, b.2.1 = .lload_n n ∧ b.2.2 = 1 ∧ (n : Nat) = i))
  | .lstore i => okN B j b && (decide (b.2.1 = .lstore i ∧ b.2.2 = 2) || decide (∃ n : Fin 4, b.2.1 = .lstore_n n ∧ b.2.2 = 1 ∧ (n : Nat) = i))
  | .aload i => okN B j b && (decide (b.2.1 = .aload i ∧ b.2.2 = 2) || decide (∃ n : Fin 4, b.2.1 = .aload_n n ∧ b.2.2 = 1 ∧ (n : Nat) = i))
  | .astore i => okN B j b && (decide (b.2.1 = .astore i ∧ b.2.2 = 2) || decide (∃ n : Fin 4, b.2.1 = .astore_n n ∧ b.2.2 = 1 ∧ (n : Nat) = i))
  | .iinc i n => okN B j b && decide (b.2.1 = .iinc i n ∧ b.2.2 = 3)
  | .iadd => okN B j b && decide (b.2.1 = .iadd ∧ b.2.2 = 1)
  | .isub => okN B j b && decide (b.2.1 = .isub ∧ b.2.2 = 1)
  | .imul => okN B j b && decide (b.2.1 = .imul ∧ b.2.2 = 1)
  | .iand => okN B j b && decide (b.2.1 = .iand ∧ b.2.2 = 1)
  | .ior => okN B j b && decide (b.2.1 = .ior ∧ b.2.2 = 1)
  | .ixor => okN B j b && decide (b.2.1 = .ixor ∧ b.2.2 = 1)
  | .ishl => okN B j b && decide (b.2.1 = .ishl ∧ b.2.2 = 1)
  | .ishr => okN B j b && decide (b.2.1 = .ishr ∧ b.2.2 = 1)
  | .iushr => okN B j b && decide (b.2.1 = .iushr ∧ b.2.2 = 1)
  | .idiv => okN B j b && decide (b.2.1 = .idiv ∧ b.2.2 = 1)
  | .irem => okN B j b && decide (b.2.1 = .irem ∧ b.2.2 = 1)
  | .ladd => okN B j b && decide (b.2.1 = .ladd ∧ b.2.2 = 1)
  | .lsub => okN B j b && decide (b.2.1 = .lsub ∧ b.2.2 = 1)
  | .lmul => okN B j b && decide (b.2.1 = .lmul ∧ b.2.2 = 1)
  | .land => okN B j b && decide (b.2.1 = .land ∧ b.2.2 = 1)
  | .lor => okN B j b && decide (b.2.1 = .lor ∧ b.2.2 = 1)
  | .lxor => okN B j b && decide (b.2.1 = .lxor ∧ b.2.2 = 1)
  | .lshl => okN B j b && decide (b.2.1 = .lshl ∧ b.2.2 = 1)
  | .lshr => okN B j b && decide (b.2.1 = .lshr ∧ b.2.2 = 1)
  | .lushr => okN B j b && decide (b.2.1 = .lushr ∧ b.2.2 = 1)
  | .ldiv => okN B j b && decide (b.2.1 = .ldiv ∧ b.2.2 = 1)
  | .lrem => okN B j b && decide (b.2.1 = .lrem ∧ b.2.2 = 1)
  | .ineg => okN B j b && decide (b.2.1 = .ineg ∧ b.2.2 = 1)
  | .lneg => okN B j b && decide (b.2.1 = .lneg ∧ b.2.2 = 1)
  | .lcmp => okN B j b && decide (b.2.1 = .lcmp ∧ b.2.2 = 1)
  | .i2l => okN B j b && decide (b.2.1 = .i2l ∧ b.2.2 = 1)
  | .l2i => okN B j b && decide (b.2.1 = .l2i ∧ b.2.2 = 1)
  | .i2c => okN B j b && decide (b.2.1 = .i2c ∧ b.2.2 = 1)
  | .dup => okN B j b && decide (b.2.1 = .dup ∧ b.2.2 = 1)
  | .dup2 => okN B j b && decide (b.2.1 = .dup2 ∧ b.2.2 = 1)
  | .pop => okN B j b && decide (b.2.1 = .pop ∧ b.2.2 = 1)
  | .iaload => okN B j b && decide (b.2.1 = .iaload ∧ b.2.2 = 1)
  | .laload => okN B j b && decide (b.2.1 = .laload ∧ b.2.2 = 1)
  | .baload => okN B j b && decide (b.2.1 = .baload ∧ b.2.2 = 1)
  | .aaload => okN B j b && decide (b.2.1 = .aaload ∧ b.2.2 = 1)
  | .iastore => okN B j b && decide (b.2.1 = .iastore ∧ b.2.2 = 1)
  | .lastore => okN B j b && decide (b.2.1 = .lastore ∧ b.2.2 = 1)
  | .bastore => okN B j b && decide (b.2.1 = .bastore ∧ b.2.2 = 1)
  | .arraylength => okN B j b && decide (b.2.1 = .arraylength ∧ b.2.2 = 1)
  | .ireturn => decide (b.2.1 = .ireturn ∧ b.2.2 = 1)
  | .lreturn => decide (b.2.1 = .lreturn ∧ b.2.2 = 1)
  | .areturn => decide (b.2.1 = .areturn ∧ b.2.2 = 1)
  | .return_ => decide (b.2.1 = .return_ ∧ b.2.2 = 1)
  | .goto t => okT B b (brOff b.2.1) t && decide (b.2.1 = .goto (brOff b.2.1) ∧ b.2.2 = 3)
  | .if_icmp cd t => okN B j b && (okT B b (brOff b.2.1) t && decide (b.2.1 = .if_icmp cd (brOff b.2.1) ∧ b.2.2 = 3))
  | .ifCond cd t => okN B j b && (okT B b (brOff b.2.1) t && decide (b.2.1 = .ifCond cd (brOff b.2.1) ∧ b.2.2 = 3))
  | .tableswitch d lo _ ts => okT B b (tsRaw b.2.1).1 d && (decide (b.2.1 = .tableswitch (tsRaw b.2.1).1 lo (lo + (tsRaw b.2.1).2.2.2.size - 1) (tsRaw b.2.1).2.2.2 ∧ (tsRaw b.2.1).2.2.2.size = ts.toList.length) && (List.range ts.toList.length).all (fun k => okT B b ((tsRaw b.2.1).2.2.2.getD k 0) (ts.toList.getD k d)))
  | .lookupswitch d ps => okT B b (lkRaw b.2.1).1 d && (decide (b.2.1 = .lookupswitch (lkRaw b.2.1).1 (lkRaw b.2.1).2 ∧ ((lkRaw b.2.1).2.toList.zip ((lkRaw b.2.1).2.toList.drop 1)).all (fun (x, y) => x.1 < y.1) = true ∧ (lkRaw b.2.1).2.toList.map (fun q => q.1) = ps.toList.map (fun q => q.1)) && ((lkRaw b.2.1).2.toList.zip ps.toList).all (fun q => okT B b q.1.2 q.2.2))
  | .multianewarray ci k => okN B j b && (decide (b.2.1 = .getfield (px b.2.1) ∧ b.2.2 = 3 ∧ ci < 9) && (decide ((own, px b.2.1, false, ci, k) ∈ FLT) || decide ((own, px b.2.1, true, ci, k) ∈ FLT)))
  | .invokeinterface ci k => okN B j b && (decide (b.2.1 = .putfield (px b.2.1) ∧ b.2.2 = 3 ∧ ci < 9) && (decide ((own, px b.2.1, false, ci, k) ∈ FLT) || decide ((own, px b.2.1, true, ci, k) ∈ FLT)))
  | .getstatic _ => okN B j b && decide (b.2.1 = .getstatic 94 ∧ b.2.2 = 3 ∧ OWNN own = RX3)
  | .ret n => okN B j b && decide (b.2.1 = .invokestatic (px b.2.1) ∧ b.2.2 = 3 ∧ (own, px b.2.1, n) ∈ MAT)
  | .ldc t => okN B j b && (decide (OWNN own = RX6) && ((decide (t = 52 ∧ b.2.1 = .ldc 166 ∧ b.2.2 = 2)) || (decide (t = 53 ∧ b.2.1 = .ldc 182 ∧ b.2.2 = 2))))
  | .invokedynamic n => okN B j b && ((decide (n = 0 ∧ b.2.1 = .invokestatic (px b.2.1) ∧ b.2.2 = 3 ∧ (own, px b.2.1) ∈ ACT)) || (decide (OWNN own = RX6 ∧ n ≠ 0 ∧ b.2.1 = .invokevirtual (px b.2.1) ∧ b.2.2 = 3 ∧ (px b.2.1, n) ∈ STT)))
  | .invokestatic k => okN B j b && (decide (b.2.2 = 3 ∧ (own, px b.2.1, k) ∈ MLT) && (decide (b.2.1 = .invokestatic (px b.2.1) ∧ k ∈ STK) || decide (b.2.1 = .invokevirtual (px b.2.1) ∧ k ∉ STK)))
  | _ => false
theorem bpOf_at {B : List (Nat × Instr × Nat)} {j : Nat} {b : Nat × Instr × Nat} (h : B[j]? = some b) : bpOf B j = b.1 := by
  unfold bpOf
  rw [List.getD_eq_getElem?_getD, h]
  rfl
theorem bi2_inv {f : Int → Int → Int} {pc : Nat} {L st : List Vv} {m : Mm} {q : Cf} (h : bi2 f pc L st m = some q) : ∃ a b r, st = (0, b) :: (0, a) :: r ∧ q = (pc + 1, L, (0, f a b) :: r, m) := by
  unfold bi2 at h
  split at h
  · cases h; exact ⟨_, _, _, rfl, rfl⟩
  · cases h
theorem bl2_inv {f : Int → Int → Int} {pc : Nat} {L st : List Vv} {m : Mm} {q : Cf} (h : bl2 f pc L st m = some q) : ∃ a b r, st = (1, b) :: (1, a) :: r ∧ q = (pc + 1, L, (1, f a b) :: r, m) := by
  unfold bl2 at h
  split at h
  · cases h; exact ⟨_, _, _, rfl, rfl⟩
  · cases h
theorem bs2_inv {f : Int → Int → Int} {pc : Nat} {L st : List Vv} {m : Mm} {q : Cf} (h : bs2 f pc L st m = some q) : ∃ a b r, st = (0, b) :: (1, a) :: r ∧ q = (pc + 1, L, (1, f a b) :: r, m) := by
  unfold bs2 at h
  split at h
  · cases h; exact ⟨_, _, _, rfl, rfl⟩
  · cases h
theorem bd2_inv {f : Int → Int → Int} {pc : Nat} {L st : List Vv} {m : Mm} {q : Cf} (h : bd2 f pc L st m = some q) : ∃ a b r, st = (0, b) :: (0, a) :: r ∧ b ≠ 0 ∧ q = (pc + 1, L, (0, f a b) :: r, m) := by
  unfold bd2 at h
  split at h
  · split at h
    · cases h
    · rename_i hb; cases h; exact ⟨_, _, _, rfl, hb, rfl⟩
  · cases h
theorem bq2_inv {f : Int → Int → Int} {pc : Nat} {L st : List Vv} {m : Mm} {q : Cf} (h : bq2 f pc L st m = some q) : ∃ a b r, st = (1, b) :: (1, a) :: r ∧ b ≠ 0 ∧ q = (pc + 1, L, (1, f a b) :: r, m) := by
  unfold bq2 at h
  split at h
  · split at h
    · cases h
    · rename_i hb; cases h; exact ⟨_, _, _, rfl, hb, rfl⟩
  · cases h
theorem ald_inv {ty rt pc : Nat} {L st : List Vv} {m : Mm} {q : Cf} (h : ald ty rt pc L st m = some q) : ∃ i t o r, st = (0, i) :: (t, o) :: r ∧ aty t = ty ∧ 0 ≤ i ∧ i < aln t ∧ q = (pc + 1, L, (rt, m o i) :: r, m) := by
  unfold ald at h
  split at h
  · split at h
    · split at h
      · rename_i h1 h2; cases h; exact ⟨_, _, _, _, rfl, h1, h2.1, h2.2, rfl⟩
      · cases h
    · cases h
  · cases h
theorem rld_inv {pc : Nat} {L st : List Vv} {m : Mm} {q : Cf} (h : rld pc L st m = some q) : ∃ i t o r tr, st = (0, i) :: (t, o) :: r ∧ ((aty t = 3 ∧ tr = 13) ∨ (aty t = 4 ∧ tr = 16)) ∧ 0 ≤ i ∧ i < aln t ∧ q = (pc + 1, L, (tr, PA (aty t) o i) :: r, m) := by
  unfold rld at h
  split at h
  · split at h
    · split at h
      · rename_i h1 h2; cases h; exact ⟨_, _, _, _, 13, rfl, Or.inl ⟨h1, rfl⟩, h2.1, h2.2, by rw [h1]⟩
      · cases h
    · split at h
      · split at h
        · rename_i h1 h2; cases h; exact ⟨_, _, _, _, 16, rfl, Or.inr ⟨h1, rfl⟩, h2.1, h2.2, by rw [h1]⟩
        · cases h
      · cases h
  · cases h
theorem ast_inv {ty vt pc : Nat} {L st : List Vv} {m : Mm} {q : Cf} (h : ast ty vt pc L st m = some q) : ∃ v i t o r, st = (vt, v) :: (0, i) :: (t, o) :: r ∧ aty t = ty ∧ 0 ≤ i ∧ i < aln t ∧ q = (pc + 1, L, r, up m o i v) := by
  unfold ast at h
  split at h
  · split at h
    · split at h
      · split at h
        · rename_i h0 h1 h2; subst h0; cases h; exact ⟨_, _, _, _, _, rfl, h1, h2.1, h2.2, rfl⟩
        · cases h
      · cases h
    · cases h
  · cases h
theorem bst_inv {pc : Nat} {L st : List Vv} {m : Mm} {q : Cf} (h : bst pc L st m = some q) : ∃ v i t o r, st = (0, v) :: (0, i) :: (t, o) :: r ∧ aty t = 2 ∧ (v = 0 ∨ v = 1) ∧ 0 ≤ i ∧ i < aln t ∧ q = (pc + 1, L, r, up m o i v) := by
  unfold bst at h
  split at h
  · split at h
    · split at h
      · rename_i h1 h2; cases h; exact ⟨_, _, _, _, _, rfl, h1, h2.1, h2.2.1, h2.2.2, rfl⟩
      · cases h
    · cases h
  · cases h
theorem gtf_inv {ci k pc : Nat} {L st : List Vv} {m : Mm} {q : Cf} (h : gtf ci k pc L st m = some q) : ∃ o r v, st = (ci + 10, o) :: r ∧ k < CN ci ∧ ((FT ci k = 0 ∨ FT ci k = 2) ∧ v = (0, m o k) ∨ FT ci k = 1 ∧ v = (1, m o k) ∨ (¬ (FT ci k = 0 ∨ FT ci k = 2) ∧ ¬ FT ci k = 1 ∧ v = (FT ci k, o + OF ci k))) ∧ q = (pc + 1, L, v :: r, m) := by
  unfold gtf at h
  split at h
  · split at h
    · rename_i h0
      obtain ⟨h0, hk⟩ := h0
      subst h0
      split at h
      · rename_i h1; cases h; exact ⟨_, _, _, rfl, hk, Or.inl ⟨h1, rfl⟩, rfl⟩
      · split at h
        · rename_i h1 h2; cases h; exact ⟨_, _, _, rfl, hk, Or.inr (Or.inl ⟨h2, rfl⟩), rfl⟩
        · rename_i h1 h2; cases h; exact ⟨_, _, _, rfl, hk, Or.inr (Or.inr ⟨h1, h2, rfl⟩), rfl⟩
    · cases h
  · cases h
theorem ptf_inv {ci k pc : Nat} {L st : List Vv} {m : Mm} {q : Cf} (h : ptf ci k pc L st m = some q) : ∃ o r tv v, st = (tv, v) :: (ci + 10, o) :: r ∧ k < CN ci ∧ (FT ci k = 0 ∧ tv = 0 ∨ FT ci k = 1 ∧ tv = 1 ∨ FT ci k = 2 ∧ tv = 0 ∧ (v = 0 ∨ v = 1)) ∧ q = (pc + 1, L, r, up m o k v) := by
  unfold ptf at h
  split at h
  · split at h
    · rename_i h0
      obtain ⟨h0, hk⟩ := h0
      subst h0
      split at h
      · rename_i h1; cases h; exact ⟨_, _, _, _, rfl, hk, Or.inl h1, rfl⟩
      · split at h
        · rename_i h1 h2; cases h; exact ⟨_, _, _, _, rfl, hk, Or.inr (Or.inl h2), rfl⟩
        · split at h
          · split at h
            · rename_i h1 h2 h3 h4; cases h; exact ⟨_, _, _, _, rfl, hk, Or.inr (Or.inr ⟨h3.1, h3.2, h4⟩), rfl⟩
            · cases h
          · cases h
    · cases h
  · cases h
theorem acp_inv {pc : Nat} {L st : List Vv} {m : Mm} {q : Cf} (h : acp pc L st m = some q) : ∃ n dp td d sp ts s, st = [(0, n), (0, dp), (td, d), (0, sp), (ts, s)] ∧ aty ts = 0 ∧ aty td = 0 ∧ 0 ≤ n ∧ 0 ≤ sp ∧ 0 ≤ dp ∧ sp + n ≤ aln ts ∧ dp + n ≤ aln td ∧ q = (pc + 1, L, [], cpy m s sp d dp n) := by
  unfold acp at h
  split at h
  · split at h
    · split at h
      · rename_i h1 h2; cases h; exact ⟨_, _, _, _, _, _, _, rfl, h1.1, h1.2, h2.1, h2.2.1, h2.2.2.1, h2.2.2.2.1, h2.2.2.2.2, rfl⟩
      · cases h
    · cases h
  · cases h
theorem mth_inv {n pc : Nat} {L st : List Vv} {m : Mm} {q : Cf} (h : mth n pc L st m = some q) : (∃ a b r, n = 0 ∧ st = (0, b) :: (0, a) :: r ∧ catS r ≤ 8 ∧ q = (pc + 1, L, (0, max a b) :: r, m)) ∨ (∃ a b r, n = 1 ∧ st = (0, b) :: (0, a) :: r ∧ catS r ≤ 8 ∧ q = (pc + 1, L, (0, min a b) :: r, m)) ∨ (∃ a r, n = 2 ∧ st = (0, a) :: r ∧ catS r ≤ 8 ∧ q = (pc + 1, L, (0, if 0 ≤ a then a else w32 (0 - a)) :: r, m)) ∨ (∃ a b r, n = 3 ∧ st = (1, b) :: (1, a) :: r ∧ catS r ≤ 8 ∧ q = (pc + 1, L, (1, max a b) :: r, m)) ∨ (∃ a b r, n = 4 ∧ st = (1, b) :: (1, a) :: r ∧ catS r ≤ 8 ∧ q = (pc + 1, L, (1, min a b) :: r, m)) := by
  unfold mth at h
  split at h
  · split at h
    · rename_i hc; cases h; exact Or.inl ⟨_, _, _, rfl, rfl, hc, rfl⟩
    · cases h
  · split at h
    · rename_i hc; cases h; exact Or.inr (Or.inl ⟨_, _, _, rfl, rfl, hc, rfl⟩)
    · cases h
  · split at h
    · rename_i hc; cases h; exact Or.inr (Or.inr (Or.inl ⟨_, _, rfl, rfl, hc, rfl⟩))
    · cases h
  · split at h
    · rename_i hc; cases h; exact Or.inr (Or.inr (Or.inr (Or.inl ⟨_, _, _, rfl, rfl, hc, rfl⟩)))
    · cases h
  · split at h
    · rename_i hc; cases h; exact Or.inr (Or.inr (Or.inr (Or.inr ⟨_, _, _, rfl, rfl, hc, rfl⟩)))
    · cases h
  · cases h
def StOk (L st : List Vv) (m : Mm) : Prop := (∀ v ∈ L, Vok v) ∧ (∀ v ∈ st, Vok v) ∧ Mok m
theorem Vok_9 : Vok (9, 0) := trivial
theorem cut1_ok {L : List Vv} {i : Nat} (h : ∀ v ∈ L, Vok v) : ∀ v ∈ cut1 L i, Vok v := by
  intro v hv
  unfold cut1 at hv
  split at hv
  · exact h v hv
  · split at hv
    · rcases List.mem_or_eq_of_mem_set hv with z | z
      · exact h v z
      · rw [z]; exact Vok_9
    · exact h v hv
theorem sto1_ok {L : List Vv} {i : Nat} {v : Vv} (h : ∀ v ∈ L, Vok v) (hv : Vok v) : ∀ w ∈ sto1 L i v, Vok w := by
  intro w hw
  rcases List.mem_or_eq_of_mem_set hw with z | z
  · exact cut1_ok h w z
  · rw [z]; exact hv
theorem sto2_ok {L : List Vv} {i : Nat} {v : Vv} (h : ∀ v ∈ L, Vok v) (hv : Vok v) : ∀ w ∈ sto2 L i v, Vok w := by
  intro w hw
  rcases List.mem_or_eq_of_mem_set hw with z | z
  · rcases List.mem_or_eq_of_mem_set z with z | z
    · exact cut1_ok h w z
    · rw [z]; exact hv
  · rw [z]; exact Vok_9
theorem sto1_len (L : List Vv) (i : Nat) (v : Vv) : (sto1 L i v).length = L.length := by unfold sto1; rw [List.length_set, cut1_len]
theorem sto2_len (L : List Vv) (i : Nat) (v : Vv) : (sto2 L i v).length = L.length := by unfold sto2; rw [List.length_set, List.length_set, cut1_len]
theorem ok_cons {v : Vv} {r : List Vv} (hv : Vok v) (h : ∀ w ∈ r, Vok w) : ∀ w ∈ v :: r, Vok w := List.forall_mem_cons.mpr ⟨hv, h⟩
theorem in32_aln {t : Nat} {o : Int} (h : (o, t) ∈ UNI) (ha : ¬ aty t = 9) : in32 (aln t) := by
  have hk := UNI_kind _ h
  simp only at hk
  have ht : ¬ t < 100 := by
    intro z
    exact ha (by unfold aty; rw [if_pos z])
  unfold in32
  rw [aln_nat]
  omega
theorem mok_rd {m : Mm} {o i : Int} {t : Nat} (h : Mok m) (ho : (o, t) ∈ UNI) (h0 : 0 ≤ i) : sOk t i.toNat (m o i) := by
  have := h _ ho i.toNat
  simp only [Int.toNat_of_nonneg h0] at this
  exact this
theorem sOk_arr {t k : Nat} {v : Int} (ha : aty t = 0 ∨ aty t = 2) (h : sOk t k v) : in32 v := by
  have ht : ¬ t < 100 := by
    rcases ha with ha | ha <;> exact arr_kind ha (by omega)
  unfold sOk at h
  rw [if_neg (by omega)] at h
  exact h
theorem sOk_larr {t k : Nat} {v : Int} (ha : aty t = 1) (h : sOk t k v) : in64 v := by
  unfold sOk at h
  rw [if_pos (Or.inr ha)] at h
  exact h
theorem sOk_arr' {t k : Nat} {v : Int} (ha : aty t = 0 ∨ aty t = 2) (h : in32 v) : sOk t k v := by
  unfold sOk
  rw [if_neg]
  · exact h
  · have ht : ¬ t < 100 := by
      rcases ha with ha | ha <;> exact arr_kind ha (by omega)
    omega
theorem sOk_larr' {t k : Nat} {v : Int} (ha : aty t = 1) (h : in64 v) : sOk t k v := by
  unfold sOk
  rw [if_pos (Or.inr ha)]
  exact h
theorem up_nat {m : Mm} {o i v : Int} (h0 : 0 ≤ i) : up m o i v = up m o (i.toNat : Nat) v := by rw [Int.toNat_of_nonneg h0]
theorem Mok_cpy {m : Mm} {a d sp dp n : Int} {ts td : Nat} (h : Mok m) (ho : (a, ts) ∈ UNI) (ho2 : (d, td) ∈ UNI) (h1 : aty ts = 0) (h2 : aty td = 0) (hs : 0 ≤ sp) : Mok (cpy m a sp d dp n) := by
  intro q hq k
  unfold cpy
  split
  · rename_i hc
    obtain ⟨b, t⟩ := q
    simp only at hc
    obtain ⟨rfl, hc⟩ := hc
    have : t = td := UNI_eq hq ho2
    subst this
    have := mok_rd h ho (i := sp + ((k : Int) - dp)) (by omega)
    exact sOk_arr' (Or.inl h2) (sOk_arr (Or.inl h1) this)
  · exact h q hq k
theorem dec_of {cc : ByteArray} {b : Nat × Instr × Nat} {i : Instr} {n : Nat} (h : decode cc b.1 = .ok (b.2.1, b.2.2)) (h1 : b.2.1 = i) (h2 : b.2.2 = n) : decode cc b.1 = .ok (i, n) := by rw [h, h1, h2]
theorem lsw_ok {B : List (Nat × Instr × Nat)} {b : Nat × Instr × Nat} (d0 d x : Int) (hd : okT B b d0 d = true) : ∀ (ps qs : List (Int × Int)), ps.map (fun q => q.1) = qs.map (fun q => q.1) → ((ps.zip qs).all (fun q => okT B b q.1.2 q.2.2)) = true → okT B b (Op.lookupswitch.offset ps d0 x) (lsw d qs x) = true := by
  intro ps
  induction ps with
  | nil =>
    intro qs h1 h2
    cases qs with
    | nil => exact hd
    | cons q r => cases h1
  | cons p0 r ih =>
    intro qs h1 h2
    cases qs with
    | nil => cases h1
    | cons q r2 =>
      obtain ⟨a, o⟩ := p0
      obtain ⟨a2, t⟩ := q
      simp only [List.map_cons, List.cons.injEq] at h1
      simp only [List.zip_cons_cons, List.all_cons, Bool.and_eq_true] at h2
      obtain ⟨rfl, h1⟩ := h1
      rw [Op.lookupswitch.offset_cons]
      unfold lsw
      by_cases hx : a = x
      · subst hx
        rw [if_pos rfl, if_pos rfl]
        exact h2.1
      · rw [if_neg hx, if_neg (fun z => hx z.symm)]
        exact ih r2 h1 h2.2
section STEP
variable {p : Program} {l : Launch} {e : Env} {R : Room} {s : State} {mid : MethodId} {args : Array Value} {below : List Frame} {meth : Method} {c : Code} {Q : State → Prop} {ad : Int → Nat} {G : Nat → ClassId} {D : va_G} {A : Nat → Prop} {nL cells slots : Nat} {own : Nat} {cc : ByteArray} {B : List (Nat × Instr × Nat)}

theorem go_lsw (K : CX NWL p R s mid args c (OWNN own) cc ad G D A nL) {bp : Nat} {L r : List Vv} {m : Mm} {dflt x off : Int} {ps : Array (Int × Int)} {len tgt : Nat} (hx : in32 x) (hd : decode cc bp = .ok (.lookupswitch dflt ps, len)) (hp : (ps.toList.zip (ps.toList.drop 1)).all (fun (a, next) => a.1 < next.1) = true) (ho : Op.lookupswitch.offset ps.toList dflt x = off) (ht : (bp : Int) + off = (tgt : Int)) (kk : Go p l e R s mid args below meth c Q ad G D A nL cells slots tgt L r m) : Go p l e R s mid args below meth c Q ad G D A nL cells slots bp L ((0, x) :: r) m := by
  intro H locs ls hP hD hS hL
  have h := kk H locs ls hP hD hS hL
  show W p l e R s mid args below meth c H locs cells slots Q (F0 mid bp ls (.int (Int32.ofInt x) :: r.map (cv ad)))
  exact lv_lookup K.1 K.2.1 hd hp (by rw [i32_of hx]; exact ho) ht h
theorem catS_map (ad : Int → Nat) (l : List Vv) : ((l.map (cv ad)).map fun v => v.category).sum = catS l := by
  unfold catS
  rw [List.map_map]
  congr 1
  apply List.map_congr_left
  intro v _
  exact cv_cat ad v
theorem go_mmax (K : CX NWL p R s mid args c (OWNN own) cc ad G D A nL) {bp idx : Nat} {L r : List Vv} {m : Mm} {a b : Int} (ha : in32 a) (hb : in32 b) (hce : cells ≤ R.cells) (hsl : slots ≤ R.slots) (hc : catS r ≤ 8) (hw : Cond.methodLink (OWNN own) idx Lib.Math.max.name ∈ WT) (hd : decode cc bp = .ok (.invokestatic idx, 3)) (kk : Go p l e R s mid args below meth c Q ad G D A nL cells slots (bp + 3) L ((0, max a b) :: r) m) : Go p l e R s mid args below meth c Q ad G D A nL cells slots bp L ((0, b) :: (0, a) :: r) m := by
  intro H locs ls hP hD hS hL
  have h := kk H locs ls hP hD hS hL
  show W p l e R s mid args below meth c H locs cells slots Q (F0 mid bp ls (.int (Int32.ofInt b) :: .int (Int32.ofInt a) :: r.map (cv ad)))
  have e9 : cv ad (0, max a b) = .int (if Int32.ofInt a < Int32.ofInt b then Int32.ofInt b else Int32.ofInt a) := by
    have h1 : Int32.ofInt a < Int32.ofInt b ↔ a < b := by rw [Int32.lt_iff_toInt_lt, i32_of ha, i32_of hb]
    have h2 : Int32.ofInt b < Int32.ofInt a ↔ b < a := by rw [Int32.lt_iff_toInt_lt, i32_of ha, i32_of hb]
    show Value.int (Int32.ofInt (max a b)) = _
    split
    · rename_i hx
      first | (rw [h1] at hx) | (rw [h2] at hx)
      congr 2
      omega
    · rename_i hx
      first | (rw [h1] at hx) | (rw [h2] at hx)
      congr 2
      omega
  rw [List.map_cons, e9] at h
  exact va_mmax K.1 K.2.1 (by rw [K.2.2.1, hL.2.1]) K.2.2.2.1 (K.2.2.2.2.1 _ hw) (K.2.2.2.2.1 _ mat_s0) (K.2.2.2.2.1 _ mat_i) (K.2.2.2.2.1 _ mat_c0) K.2.2.2.2.2.2.2.1 (by rw [catS_map]; have := K.2.2.2.2.2.2.2.2.1; omega) hce hsl hd h
theorem go_mmin (K : CX NWL p R s mid args c (OWNN own) cc ad G D A nL) {bp idx : Nat} {L r : List Vv} {m : Mm} {a b : Int} (ha : in32 a) (hb : in32 b) (hce : cells ≤ R.cells) (hsl : slots ≤ R.slots) (hc : catS r ≤ 8) (hw : Cond.methodLink (OWNN own) idx Lib.Math.min.name ∈ WT) (hd : decode cc bp = .ok (.invokestatic idx, 3)) (kk : Go p l e R s mid args below meth c Q ad G D A nL cells slots (bp + 3) L ((0, min a b) :: r) m) : Go p l e R s mid args below meth c Q ad G D A nL cells slots bp L ((0, b) :: (0, a) :: r) m := by
  intro H locs ls hP hD hS hL
  have h := kk H locs ls hP hD hS hL
  show W p l e R s mid args below meth c H locs cells slots Q (F0 mid bp ls (.int (Int32.ofInt b) :: .int (Int32.ofInt a) :: r.map (cv ad)))
  have e9 : cv ad (0, min a b) = .int (if Int32.ofInt b < Int32.ofInt a then Int32.ofInt b else Int32.ofInt a) := by
    have h1 : Int32.ofInt a < Int32.ofInt b ↔ a < b := by rw [Int32.lt_iff_toInt_lt, i32_of ha, i32_of hb]
    have h2 : Int32.ofInt b < Int32.ofInt a ↔ b < a := by rw [Int32.lt_iff_toInt_lt, i32_of ha, i32_of hb]
    show Value.int (Int32.ofInt (min a b)) = _
    split
    · rename_i hx
      first | (rw [h1] at hx) | (rw [h2] at hx)
      congr 2
      omega
    · rename_i hx
      first | (rw [h1] at hx) | (rw [h2] at hx)
      congr 2
      omega
  rw [List.map_cons, e9] at h
  exact va_mmin K.1 K.2.1 (by rw [K.2.2.1, hL.2.1]) K.2.2.2.1 (K.2.2.2.2.1 _ hw) (K.2.2.2.2.1 _ mat_s1) (K.2.2.2.2.1 _ mat_i) (K.2.2.2.2.1 _ mat_c1) K.2.2.2.2.2.2.2.1 (by rw [catS_map]; have := K.2.2.2.2.2.2.2.2.1; omega) hce hsl hd h
theorem go_mmaxJ (K : CX NWL p R s mid args c (OWNN own) cc ad G D A nL) {bp idx : Nat} {L r : List Vv} {m : Mm} {a b : Int} (ha : in64 a) (hb : in64 b) (hce : cells ≤ R.cells) (hsl : slots ≤ R.slots) (hc : catS r ≤ 8) (hw : Cond.methodLink (OWNN own) idx Lib.MathLoose.max_long.x ∈ WT) (hd : decode cc bp = .ok (.invokestatic idx, 3)) (kk : Go p l e R s mid args below meth c Q ad G D A nL cells slots (bp + 3) L ((1, max a b) :: r) m) : Go p l e R s mid args below meth c Q ad G D A nL cells slots bp L ((1, b) :: (1, a) :: r) m := by
  intro H locs ls hP hD hS hL
  have h := kk H locs ls hP hD hS hL
  show W p l e R s mid args below meth c H locs cells slots Q (F0 mid bp ls (.long (Int64.ofInt b) :: .long (Int64.ofInt a) :: r.map (cv ad)))
  have e9 : cv ad (1, max a b) = .long (if Int64.ofInt b < Int64.ofInt a then Int64.ofInt a else Int64.ofInt b) := by
    have h1 : Int64.ofInt a < Int64.ofInt b ↔ a < b := by rw [Int64.lt_iff_toInt_lt, i64_of ha, i64_of hb]
    have h2 : Int64.ofInt b < Int64.ofInt a ↔ b < a := by rw [Int64.lt_iff_toInt_lt, i64_of ha, i64_of hb]
    show Value.long (Int64.ofInt (max a b)) = _
    split
    · rename_i hx
      first | (rw [h1] at hx) | (rw [h2] at hx)
      congr 2
      omega
    · rename_i hx
      first | (rw [h1] at hx) | (rw [h2] at hx)
      congr 2
      omega
  rw [List.map_cons, e9] at h
  exact va_mmax_long K.1 K.2.1 (by rw [K.2.2.1, hL.2.1]) K.2.2.2.1 (K.2.2.2.2.1 _ hw) (K.2.2.2.2.1 _ mat_s3) (K.2.2.2.2.1 _ mat_i) (K.2.2.2.2.1 _ mat_c3) K.2.2.2.2.2.2.2.1 (by rw [catS_map]; have := K.2.2.2.2.2.2.2.2.1; omega) hce hsl hd h
theorem go_mminJ (K : CX NWL p R s mid args c (OWNN own) cc ad G D A nL) {bp idx : Nat} {L r : List Vv} {m : Mm} {a b : Int} (ha : in64 a) (hb : in64 b) (hce : cells ≤ R.cells) (hsl : slots ≤ R.slots) (hc : catS r ≤ 8) (hw : Cond.methodLink (OWNN own) idx Lib.MathLoose.min_long.x ∈ WT) (hd : decode cc bp = .ok (.invokestatic idx, 3)) (kk : Go p l e R s mid args below meth c Q ad G D A nL cells slots (bp + 3) L ((1, min a b) :: r) m) : Go p l e R s mid args below meth c Q ad G D A nL cells slots bp L ((1, b) :: (1, a) :: r) m := by
  intro H locs ls hP hD hS hL
  have h := kk H locs ls hP hD hS hL
  show W p l e R s mid args below meth c H locs cells slots Q (F0 mid bp ls (.long (Int64.ofInt b) :: .long (Int64.ofInt a) :: r.map (cv ad)))
  have e9 : cv ad (1, min a b) = .long (if Int64.ofInt b < Int64.ofInt a then Int64.ofInt b else Int64.ofInt a) := by
    have h1 : Int64.ofInt a < Int64.ofInt b ↔ a < b := by rw [Int64.lt_iff_toInt_lt, i64_of ha, i64_of hb]
    have h2 : Int64.ofInt b < Int64.ofInt a ↔ b < a := by rw [Int64.lt_iff_toInt_lt, i64_of ha, i64_of hb]
    show Value.long (Int64.ofInt (min a b)) = _
    split
    · rename_i hx
      first | (rw [h1] at hx) | (rw [h2] at hx)
      congr 2
      omega
    · rename_i hx
      first | (rw [h1] at hx) | (rw [h2] at hx)
      congr 2
      omega
  rw [List.map_cons, e9] at h
  exact va_mmin_long K.1 K.2.1 (by rw [K.2.2.1, hL.2.1]) K.2.2.2.1 (K.2.2.2.2.1 _ hw) (K.2.2.2.2.1 _ mat_s4) (K.2.2.2.2.1 _ mat_i) (K.2.2.2.2.1 _ mat_c4) K.2.2.2.2.2.2.2.1 (by rw [catS_map]; have := K.2.2.2.2.2.2.2.2.1; omega) hce hsl hd h
theorem go_mabs (K : CX NWL p R s mid args c (OWNN own) cc ad G D A nL) {bp idx : Nat} {L r : List Vv} {m : Mm} {a : Int} (ha : in32 a) (hce : cells ≤ R.cells) (hsl : slots ≤ R.slots) (hc : catS r ≤ 8) (hw : Cond.methodLink (OWNN own) idx Lib.Math.abs.name ∈ WT) (hd : decode cc bp = .ok (.invokestatic idx, 3)) (kk : Go p l e R s mid args below meth c Q ad G D A nL cells slots (bp + 3) L ((0, if 0 ≤ a then a else w32 (0 - a)) :: r) m) : Go p l e R s mid args below meth c Q ad G D A nL cells slots bp L ((0, a) :: r) m := by
  intro H locs ls hP hD hS hL
  have h := kk H locs ls hP hD hS hL
  show W p l e R s mid args below meth c H locs cells slots Q (F0 mid bp ls (.int (Int32.ofInt a) :: r.map (cv ad)))
  have e9 : cv ad (0, if 0 ≤ a then a else w32 (0 - a)) = .int (if 0 ≤ Int32.ofInt a then Int32.ofInt a else 0 - Int32.ofInt a) := by
    have h1 : 0 ≤ Int32.ofInt a ↔ 0 ≤ a := o32_le in32_lit0 ha
    show Value.int (Int32.ofInt (if 0 ≤ a then a else w32 (0 - a))) = _
    by_cases hx : 0 ≤ a
    · rw [if_pos hx, if_pos (h1.mpr hx)]
    · rw [if_neg hx, if_neg (fun z => hx (h1.mp z)), o32_w, Int32.ofInt_sub]
      rfl
  rw [List.map_cons, e9] at h
  exact va_mabs K.1 K.2.1 (by rw [K.2.2.1, hL.2.1]) K.2.2.2.1 (K.2.2.2.2.1 _ hw) (K.2.2.2.2.1 _ mat_s2) (K.2.2.2.2.1 _ mat_i) (K.2.2.2.2.1 _ mat_c2) K.2.2.2.2.2.2.2.1 (by rw [catS_map]; have := K.2.2.2.2.2.2.2.2.1; omega) hce hsl hd h
/-- the texts' own methods: to be proved (part 09) -/
def StrRows (p : Program) (l : Launch) (e : Env) (R : Room) (s : State) (mid : MethodId) (args : Array Value) (below : List Frame) (meth : Method) (c : Code) (Q : State → Prop) (ad : Int → Nat) (G : Nat → ClassId) (D : va_G) (A : Nat → Prop) (nL cells slots : Nat) (cc : ByteArray) : Prop :=
  ∀ (bp idx n : Nat) (pc pc' : Nat) (L L' st st' : List Vv) (m m' : Mm), decode cc bp = .ok (.invokevirtual idx, 3) → (idx, n) ∈ STT → st1 (.invokedynamic n) pc L st m = some (pc', L', st', m') → Go p l e R s mid args below meth c Q ad G D A nL cells slots (bp + 3) L' st' m' → Go p l e R s mid args below meth c Q ad G D A nL cells slots bp L st m
/-- one step of the number machine is a step of the machine -/
theorem step_sound (K : CX NWL p R s mid args c (OWNN own) cc ad G D A nL) (hce : cells ≤ R.cells) (hsl : slots ≤ R.slots) {m : Mm} (S : Sc NWL ad A s s.heap m) (hst : OWNN own = RX6 → StrRows p l e R s mid args below meth c Q ad G D A nL cells slots cc)
    {pc pc' : Nat} {L L' st st' : List Vv} {m' : Mm} {i : Instr} {b : Nat × Instr × Nat} (hB : B[pc]? = some b) (hdec : decode cc b.1 = .ok (b.2.1, b.2.2)) (hok : okE own B pc b i = true) (hV : StOk L st m) (h : st1 i pc L st m = some (pc', L', st', m')) :
    StOk L' st' m' ∧ ((∀ z, m' 500 z = m 500 z) ∧ (∀ z, m' 501 z = m 501 z)) ∧ L'.length = L.length ∧ pc' < B.length ∧ (Go p l e R s mid args below meth c Q ad G D A nL cells slots (bpOf B pc') L' st' m' → Go p l e R s mid args below meth c Q ad G D A nL cells slots (bpOf B pc) L st m) := by
  obtain ⟨hVL, hVs, hM⟩ := hV
  have hro : (∀ z, m 500 z = m 500 z) ∧ (∀ z, m 501 z = m 501 z) := ⟨fun _ => rfl, fun _ => rfl⟩
  rw [bpOf_at hB]
  have roU : ∀ {o k v : Int} {t : Nat}, (o, t) ∈ UNI → (∀ z, up m o k v 500 z = m 500 z) ∧ (∀ z, up m o k v 501 z = m 501 z) := by
    intro o k v t ho
    have := UNI_lt _ ho
    simp only at this
    exact ⟨fun z => up_ne (by omega), fun z => up_ne (by omega)⟩
  cases i with
  | iconst v =>
    simp only [okE, okN, Bool.and_eq_true, Bool.or_eq_true, decide_eq_true_eq] at hok
    obtain ⟨⟨n1, n2⟩, hv, ho⟩ := hok
    simp only [st1, Option.some.injEq, Prod.mk.injEq] at h
    obtain ⟨rfl, rfl, rfl, rfl⟩ := h
    refine ⟨⟨hVL, ok_cons (Vok_i.mpr hv) hVs, hM⟩, hro, rfl, n1, fun k => ?_⟩
    rw [n2] at k
    refine go_const K hdec ?_ k
    rcases ho with ho | ho | ho | ⟨h1, h2, h3⟩ | ⟨h1, h2, h3⟩
    · exact Or.inl ho
    · exact Or.inr (Or.inl ho)
    · exact Or.inr (Or.inr (Or.inl ho))
    · exact Or.inr (Or.inr (Or.inr (Or.inl ⟨_, h1, h2, CIT_w h3⟩)))
    · exact Or.inr (Or.inr (Or.inr (Or.inr ⟨_, h1, h2, CIT_w h3⟩)))
  | bipush v =>
    simp only [okE, okN, Bool.and_eq_true, Bool.or_eq_true, decide_eq_true_eq] at hok
    obtain ⟨⟨n1, n2⟩, hv, ho⟩ := hok
    simp only [st1, Option.some.injEq, Prod.mk.injEq] at h
    obtain ⟨rfl, rfl, rfl, rfl⟩ := h
    refine ⟨⟨hVL, ok_cons (Vok_l.mpr hv) hVs, hM⟩, hro, rfl, n1, fun k => ?_⟩
    rw [n2] at k
    refine go_lconst K hdec ?_ k
    rcases ho with ho | ⟨h1, h2, h3⟩
    · exact Or.inl ho
    · exact Or.inr ⟨_, h1, h2, CLT_w h3⟩
  | iload i =>
    simp only [okE, okN, Bool.and_eq_true, Bool.or_eq_true, decide_eq_true_eq] at hok
    obtain ⟨⟨n1, n2⟩, ho⟩ := hok
    simp only [st1] at h
    split at h
    · rename_i x hx
      simp only [Option.some.injEq, Prod.mk.injEq] at h
      obtain ⟨rfl, rfl, rfl, rfl⟩ := h
      refine ⟨⟨hVL, ok_cons (hVL _ (List.mem_of_getElem? hx)) hVs, hM⟩, hro, rfl, n1, fun k => ?_⟩
      rw [n2] at k
      exact go_iload K hdec ho hx k
    · cases h
  | lload i =>
    simp only [okE, okN, Bool.and_eq_true, Bool.or_eq_true, decide_eq_true_eq] at hok
    obtain ⟨⟨n1, n2⟩, ho⟩ := hok
    simp only [st1] at h
    split at h
    · rename_i x hx
      simp only [Option.some.injEq, Prod.mk.injEq] at h
      obtain ⟨rfl, rfl, rfl, rfl⟩ := h
      refine ⟨⟨hVL, ok_cons (hVL _ (List.mem_of_getElem? hx)) hVs, hM⟩, hro, rfl, n1, fun k => ?_⟩
      rw [n2] at k
      exact go_lload K hdec ho hx k
    · cases h
  | aload i =>
    simp only [okE, okN, Bool.and_eq_true, Bool.or_eq_true, decide_eq_true_eq] at hok
    obtain ⟨⟨n1, n2⟩, ho⟩ := hok
    simp only [st1] at h
    split at h
    · rename_i t x hx
      split at h
      · rename_i ht
        simp only [Option.some.injEq, Prod.mk.injEq] at h
        obtain ⟨rfl, rfl, rfl, rfl⟩ := h
        refine ⟨⟨hVL, ok_cons (hVL _ (List.mem_of_getElem? hx)) hVs, hM⟩, hro, rfl, n1, fun k => ?_⟩
        rw [n2] at k
        exact go_aload K hdec ho hx ht k
      · cases h
    · cases h
  | istore i =>
    simp only [okE, okN, Bool.and_eq_true, Bool.or_eq_true, decide_eq_true_eq] at hok
    obtain ⟨⟨n1, n2⟩, ho⟩ := hok
    simp only [st1] at h
    split at h
    · rename_i x r
      split at h
      · rename_i hi
        simp only [Option.some.injEq, Prod.mk.injEq] at h
        obtain ⟨rfl, rfl, rfl, rfl⟩ := h
        obtain ⟨hv, hr⟩ := List.forall_mem_cons.mp hVs
        refine ⟨⟨sto1_ok hVL hv, hr, hM⟩, hro, sto1_len _ _ _, n1, fun k => ?_⟩
        rw [n2] at k
        exact go_istore K hdec ho hi k
      · cases h
    · cases h
  | lstore i =>
    simp only [okE, okN, Bool.and_eq_true, Bool.or_eq_true, decide_eq_true_eq] at hok
    obtain ⟨⟨n1, n2⟩, ho⟩ := hok
    simp only [st1] at h
    split at h
    · rename_i x r
      split at h
      · rename_i hi
        simp only [Option.some.injEq, Prod.mk.injEq] at h
        obtain ⟨rfl, rfl, rfl, rfl⟩ := h
        obtain ⟨hv, hr⟩ := List.forall_mem_cons.mp hVs
        refine ⟨⟨sto2_ok hVL hv, hr, hM⟩, hro, sto2_len _ _ _, n1, fun k => ?_⟩
        rw [n2] at k
        exact go_lstore K hdec ho hi k
      · cases h
    · cases h
  | astore i =>
    simp only [okE, okN, Bool.and_eq_true, Bool.or_eq_true, decide_eq_true_eq] at hok
    obtain ⟨⟨n1, n2⟩, ho⟩ := hok
    simp only [st1] at h
    split at h
    · rename_i t x r
      split at h
      · rename_i hi
        simp only [Option.some.injEq, Prod.mk.injEq] at h
        obtain ⟨rfl, rfl, rfl, rfl⟩ := h
        obtain ⟨hv, hr⟩ := List.forall_mem_cons.mp hVs
        refine ⟨⟨sto1_ok hVL hv, hr, hM⟩, hro, sto1_len _ _ _, n1, fun k => ?_⟩
        rw [n2] at k
        exact go_astore K hdec ho hi.1 hi.2 k
      · cases h
    · cases h
  | iinc i n =>
    simp only [okE, okN, Bool.and_eq_true, decide_eq_true_eq] at hok
    obtain ⟨⟨n1, n2⟩, h1, h2⟩ := hok
    simp only [st1] at h
    split at h
    · rename_i x hx
      simp only [Option.some.injEq, Prod.mk.injEq] at h
      obtain ⟨rfl, rfl, rfl, rfl⟩ := h
      refine ⟨⟨sto1_ok hVL (Vok_i.mpr (in32_w _)), hVs, hM⟩, hro, sto1_len _ _ _, n1, fun k => ?_⟩
      rw [n2, h2] at k
      exact go_iinc K (dec_of hdec h1 h2) hx k
    · cases h
  | iadd =>
    simp only [okE, okN, Bool.and_eq_true, decide_eq_true_eq] at hok
    obtain ⟨⟨n1, n2⟩, h1, h2⟩ := hok
    simp only [st1] at h
    obtain ⟨a, b', r, rfl, hq⟩ := bi2_inv h
    cases hq
    obtain ⟨vb, hr⟩ := List.forall_mem_cons.mp hVs
    obtain ⟨va, hr⟩ := List.forall_mem_cons.mp hr
    refine ⟨⟨hVL, ok_cons (Vok_i.mpr (in32_w _)) hr, hM⟩, hro, rfl, n1, fun k => ?_⟩
    rw [n2, h2] at k
    exact go_iadd K (dec_of hdec h1 h2) k
  | isub =>
    simp only [okE, okN, Bool.and_eq_true, decide_eq_true_eq] at hok
    obtain ⟨⟨n1, n2⟩, h1, h2⟩ := hok
    simp only [st1] at h
    obtain ⟨a, b', r, rfl, hq⟩ := bi2_inv h
    cases hq
    obtain ⟨vb, hr⟩ := List.forall_mem_cons.mp hVs
    obtain ⟨va, hr⟩ := List.forall_mem_cons.mp hr
    refine ⟨⟨hVL, ok_cons (Vok_i.mpr (in32_w _)) hr, hM⟩, hro, rfl, n1, fun k => ?_⟩
    rw [n2, h2] at k
    exact go_isub K (dec_of hdec h1 h2) k
  | imul =>
    simp only [okE, okN, Bool.and_eq_true, decide_eq_true_eq] at hok
    obtain ⟨⟨n1, n2⟩, h1, h2⟩ := hok
    simp only [st1] at h
    obtain ⟨a, b', r, rfl, hq⟩ := bi2_inv h
    cases hq
    obtain ⟨vb, hr⟩ := List.forall_mem_cons.mp hVs
    obtain ⟨va, hr⟩ := List.forall_mem_cons.mp hr
    refine ⟨⟨hVL, ok_cons (Vok_i.mpr (in32_w _)) hr, hM⟩, hro, rfl, n1, fun k => ?_⟩
    rw [n2, h2] at k
    exact go_imul K (dec_of hdec h1 h2) k
  | iand =>
    simp only [okE, okN, Bool.and_eq_true, decide_eq_true_eq] at hok
    obtain ⟨⟨n1, n2⟩, h1, h2⟩ := hok
    simp only [st1] at h
    obtain ⟨a, b', r, rfl, hq⟩ := bi2_inv h
    cases hq
    obtain ⟨vb, hr⟩ := List.forall_mem_cons.mp hVs
    obtain ⟨va, hr⟩ := List.forall_mem_cons.mp hr
    refine ⟨⟨hVL, ok_cons (Vok_i.mpr (in32_to _)) hr, hM⟩, hro, rfl, n1, fun k => ?_⟩
    rw [n2, h2] at k
    exact go_iand K (dec_of hdec h1 h2) k
  | ior =>
    simp only [okE, okN, Bool.and_eq_true, decide_eq_true_eq] at hok
    obtain ⟨⟨n1, n2⟩, h1, h2⟩ := hok
    simp only [st1] at h
    obtain ⟨a, b', r, rfl, hq⟩ := bi2_inv h
    cases hq
    obtain ⟨vb, hr⟩ := List.forall_mem_cons.mp hVs
    obtain ⟨va, hr⟩ := List.forall_mem_cons.mp hr
    refine ⟨⟨hVL, ok_cons (Vok_i.mpr (in32_to _)) hr, hM⟩, hro, rfl, n1, fun k => ?_⟩
    rw [n2, h2] at k
    exact go_ior K (dec_of hdec h1 h2) k
  | ixor =>
    simp only [okE, okN, Bool.and_eq_true, decide_eq_true_eq] at hok
    obtain ⟨⟨n1, n2⟩, h1, h2⟩ := hok
    simp only [st1] at h
    obtain ⟨a, b', r, rfl, hq⟩ := bi2_inv h
    cases hq
    obtain ⟨vb, hr⟩ := List.forall_mem_cons.mp hVs
    obtain ⟨va, hr⟩ := List.forall_mem_cons.mp hr
    refine ⟨⟨hVL, ok_cons (Vok_i.mpr (in32_to _)) hr, hM⟩, hro, rfl, n1, fun k => ?_⟩
    rw [n2, h2] at k
    exact go_ixor K (dec_of hdec h1 h2) k
  | ishl =>
    simp only [okE, okN, Bool.and_eq_true, decide_eq_true_eq] at hok
    obtain ⟨⟨n1, n2⟩, h1, h2⟩ := hok
    simp only [st1] at h
    obtain ⟨a, b', r, rfl, hq⟩ := bi2_inv h
    cases hq
    obtain ⟨vb, hr⟩ := List.forall_mem_cons.mp hVs
    obtain ⟨va, hr⟩ := List.forall_mem_cons.mp hr
    refine ⟨⟨hVL, ok_cons (Vok_i.mpr (in32_to _)) hr, hM⟩, hro, rfl, n1, fun k => ?_⟩
    rw [n2, h2] at k
    exact go_ishl K (dec_of hdec h1 h2) k
  | ishr =>
    simp only [okE, okN, Bool.and_eq_true, decide_eq_true_eq] at hok
    obtain ⟨⟨n1, n2⟩, h1, h2⟩ := hok
    simp only [st1] at h
    obtain ⟨a, b', r, rfl, hq⟩ := bi2_inv h
    cases hq
    obtain ⟨vb, hr⟩ := List.forall_mem_cons.mp hVs
    obtain ⟨va, hr⟩ := List.forall_mem_cons.mp hr
    refine ⟨⟨hVL, ok_cons (Vok_i.mpr (in32_to _)) hr, hM⟩, hro, rfl, n1, fun k => ?_⟩
    rw [n2, h2] at k
    exact go_ishr K (dec_of hdec h1 h2) k
  | iushr =>
    simp only [okE, okN, Bool.and_eq_true, decide_eq_true_eq] at hok
    obtain ⟨⟨n1, n2⟩, h1, h2⟩ := hok
    simp only [st1] at h
    obtain ⟨a, b', r, rfl, hq⟩ := bi2_inv h
    cases hq
    obtain ⟨vb, hr⟩ := List.forall_mem_cons.mp hVs
    obtain ⟨va, hr⟩ := List.forall_mem_cons.mp hr
    refine ⟨⟨hVL, ok_cons (Vok_i.mpr (in32_to _)) hr, hM⟩, hro, rfl, n1, fun k => ?_⟩
    rw [n2, h2] at k
    exact go_iushr K (dec_of hdec h1 h2) k
  | idiv =>
    simp only [okE, okN, Bool.and_eq_true, decide_eq_true_eq] at hok
    obtain ⟨⟨n1, n2⟩, h1, h2⟩ := hok
    simp only [st1] at h
    obtain ⟨a, b', r, rfl, hne, hq⟩ := bd2_inv h
    cases hq
    obtain ⟨vb, hr⟩ := List.forall_mem_cons.mp hVs
    obtain ⟨va, hr⟩ := List.forall_mem_cons.mp hr
    refine ⟨⟨hVL, ok_cons (Vok_i.mpr (in32_to _)) hr, hM⟩, hro, rfl, n1, fun k => ?_⟩
    rw [n2, h2] at k
    exact go_idiv K (Vok_i.mp vb) hne (dec_of hdec h1 h2) k
  | irem =>
    simp only [okE, okN, Bool.and_eq_true, decide_eq_true_eq] at hok
    obtain ⟨⟨n1, n2⟩, h1, h2⟩ := hok
    simp only [st1] at h
    obtain ⟨a, b', r, rfl, hne, hq⟩ := bd2_inv h
    cases hq
    obtain ⟨vb, hr⟩ := List.forall_mem_cons.mp hVs
    obtain ⟨va, hr⟩ := List.forall_mem_cons.mp hr
    refine ⟨⟨hVL, ok_cons (Vok_i.mpr (in32_to _)) hr, hM⟩, hro, rfl, n1, fun k => ?_⟩
    rw [n2, h2] at k
    exact go_irem K (Vok_i.mp vb) hne (dec_of hdec h1 h2) k
  | ladd =>
    simp only [okE, okN, Bool.and_eq_true, decide_eq_true_eq] at hok
    obtain ⟨⟨n1, n2⟩, h1, h2⟩ := hok
    simp only [st1] at h
    obtain ⟨a, b', r, rfl, hq⟩ := bl2_inv h
    cases hq
    obtain ⟨vb, hr⟩ := List.forall_mem_cons.mp hVs
    obtain ⟨va, hr⟩ := List.forall_mem_cons.mp hr
    refine ⟨⟨hVL, ok_cons (Vok_l.mpr (in64_w _)) hr, hM⟩, hro, rfl, n1, fun k => ?_⟩
    rw [n2, h2] at k
    exact go_ladd K (dec_of hdec h1 h2) k
  | lsub =>
    simp only [okE, okN, Bool.and_eq_true, decide_eq_true_eq] at hok
    obtain ⟨⟨n1, n2⟩, h1, h2⟩ := hok
    simp only [st1] at h
    obtain ⟨a, b', r, rfl, hq⟩ := bl2_inv h
    cases hq
    obtain ⟨vb, hr⟩ := List.forall_mem_cons.mp hVs
    obtain ⟨va, hr⟩ := List.forall_mem_cons.mp hr
    refine ⟨⟨hVL, ok_cons (Vok_l.mpr (in64_w _)) hr, hM⟩, hro, rfl, n1, fun k => ?_⟩
    rw [n2, h2] at k
    exact go_lsub K (dec_of hdec h1 h2) k
  | lmul =>
    simp only [okE, okN, Bool.and_eq_true, decide_eq_true_eq] at hok
    obtain ⟨⟨n1, n2⟩, h1, h2⟩ := hok
    simp only [st1] at h
    obtain ⟨a, b', r, rfl, hq⟩ := bl2_inv h
    cases hq
    obtain ⟨vb, hr⟩ := List.forall_mem_cons.mp hVs
    obtain ⟨va, hr⟩ := List.forall_mem_cons.mp hr
    refine ⟨⟨hVL, ok_cons (Vok_l.mpr (in64_w _)) hr, hM⟩, hro, rfl, n1, fun k => ?_⟩
    rw [n2, h2] at k
    exact go_lmul K (dec_of hdec h1 h2) k
  | land =>
    simp only [okE, okN, Bool.and_eq_true, decide_eq_true_eq] at hok
    obtain ⟨⟨n1, n2⟩, h1, h2⟩ := hok
    simp only [st1] at h
    obtain ⟨a, b', r, rfl, hq⟩ := bl2_inv h
    cases hq
    obtain ⟨vb, hr⟩ := List.forall_mem_cons.mp hVs
    obtain ⟨va, hr⟩ := List.forall_mem_cons.mp hr
    refine ⟨⟨hVL, ok_cons (Vok_l.mpr (in64_to _)) hr, hM⟩, hro, rfl, n1, fun k => ?_⟩
    rw [n2, h2] at k
    exact go_land K (dec_of hdec h1 h2) k
  | lor =>
    simp only [okE, okN, Bool.and_eq_true, decide_eq_true_eq] at hok
    obtain ⟨⟨n1, n2⟩, h1, h2⟩ := hok
    simp only [st1] at h
    obtain ⟨a, b', r, rfl, hq⟩ := bl2_inv h
    cases hq
    obtain ⟨vb, hr⟩ := List.forall_mem_cons.mp hVs
    obtain ⟨va, hr⟩ := List.forall_mem_cons.mp hr
    refine ⟨⟨hVL, ok_cons (Vok_l.mpr (in64_to _)) hr, hM⟩, hro, rfl, n1, fun k => ?_⟩
    rw [n2, h2] at k
    exact go_lor K (dec_of hdec h1 h2) k
  | lxor =>
    simp only [okE, okN, Bool.and_eq_true, decide_eq_true_eq] at hok
    obtain ⟨⟨n1, n2⟩, h1, h2⟩ := hok
    simp only [st1] at h
    obtain ⟨a, b', r, rfl, hq⟩ := bl2_inv h
    cases hq
    obtain ⟨vb, hr⟩ := List.forall_mem_cons.mp hVs
    obtain ⟨va, hr⟩ := List.forall_mem_cons.mp hr
    refine ⟨⟨hVL, ok_cons (Vok_l.mpr (in64_to _)) hr, hM⟩, hro, rfl, n1, fun k => ?_⟩
    rw [n2, h2] at k
    exact go_lxor K (dec_of hdec h1 h2) k
  | lshl =>
    simp only [okE, okN, Bool.and_eq_true, decide_eq_true_eq] at hok
    obtain ⟨⟨n1, n2⟩, h1, h2⟩ := hok
    simp only [st1] at h
    obtain ⟨a, b', r, rfl, hq⟩ := bs2_inv h
    cases hq
    obtain ⟨vb, hr⟩ := List.forall_mem_cons.mp hVs
    obtain ⟨va, hr⟩ := List.forall_mem_cons.mp hr
    refine ⟨⟨hVL, ok_cons (Vok_l.mpr (in64_to _)) hr, hM⟩, hro, rfl, n1, fun k => ?_⟩
    rw [n2, h2] at k
    exact go_lshl K (dec_of hdec h1 h2) k
  | lshr =>
    simp only [okE, okN, Bool.and_eq_true, decide_eq_true_eq] at hok
    obtain ⟨⟨n1, n2⟩, h1, h2⟩ := hok
    simp only [st1] at h
    obtain ⟨a, b', r, rfl, hq⟩ := bs2_inv h
    cases hq
    obtain ⟨vb, hr⟩ := List.forall_mem_cons.mp hVs
    obtain ⟨va, hr⟩ := List.forall_mem_cons.mp hr
    refine ⟨⟨hVL, ok_cons (Vok_l.mpr (in64_to _)) hr, hM⟩, hro, rfl, n1, fun k => ?_⟩
    rw [n2, h2] at k
    exact go_lshr K (dec_of hdec h1 h2) k
  | lushr =>
    simp only [okE, okN, Bool.and_eq_true, decide_eq_true_eq] at hok
    obtain ⟨⟨n1, n2⟩, h1, h2⟩ := hok
    simp only [st1] at h
    obtain ⟨a, b', r, rfl, hq⟩ := bs2_inv h
    cases hq
    obtain ⟨vb, hr⟩ := List.forall_mem_cons.mp hVs
    obtain ⟨va, hr⟩ := List.forall_mem_cons.mp hr
    refine ⟨⟨hVL, ok_cons (Vok_l.mpr (in64_to _)) hr, hM⟩, hro, rfl, n1, fun k => ?_⟩
    rw [n2, h2] at k
    exact go_lushr K (dec_of hdec h1 h2) k
  | ldiv =>
    simp only [okE, okN, Bool.and_eq_true, decide_eq_true_eq] at hok
    obtain ⟨⟨n1, n2⟩, h1, h2⟩ := hok
    simp only [st1] at h
    obtain ⟨a, b', r, rfl, hne, hq⟩ := bq2_inv h
    cases hq
    obtain ⟨vb, hr⟩ := List.forall_mem_cons.mp hVs
    obtain ⟨va, hr⟩ := List.forall_mem_cons.mp hr
    refine ⟨⟨hVL, ok_cons (Vok_l.mpr (in64_to _)) hr, hM⟩, hro, rfl, n1, fun k => ?_⟩
    rw [n2, h2] at k
    exact go_ldiv K (Vok_l.mp vb) hne (dec_of hdec h1 h2) k
  | lrem =>
    simp only [okE, okN, Bool.and_eq_true, decide_eq_true_eq] at hok
    obtain ⟨⟨n1, n2⟩, h1, h2⟩ := hok
    simp only [st1] at h
    obtain ⟨a, b', r, rfl, hne, hq⟩ := bq2_inv h
    cases hq
    obtain ⟨vb, hr⟩ := List.forall_mem_cons.mp hVs
    obtain ⟨va, hr⟩ := List.forall_mem_cons.mp hr
    refine ⟨⟨hVL, ok_cons (Vok_l.mpr (in64_to _)) hr, hM⟩, hro, rfl, n1, fun k => ?_⟩
    rw [n2, h2] at k
    exact go_lrem K (Vok_l.mp vb) hne (dec_of hdec h1 h2) k
  | ineg =>
    simp only [okE, okN, Bool.and_eq_true, decide_eq_true_eq] at hok
    obtain ⟨⟨n1, n2⟩, h1, h2⟩ := hok
    simp only [st1] at h
    split at h
    · rename_i a r
      simp only [Option.some.injEq, Prod.mk.injEq] at h
      obtain ⟨rfl, rfl, rfl, rfl⟩ := h
      obtain ⟨va, hr⟩ := List.forall_mem_cons.mp hVs
      refine ⟨⟨hVL, ok_cons (Vok_i.mpr (in32_w _)) hr, hM⟩, hro, rfl, n1, fun k => ?_⟩
      rw [n2, h2] at k
      exact go_ineg K (dec_of hdec h1 h2) k
    · cases h
  | lneg =>
    simp only [okE, okN, Bool.and_eq_true, decide_eq_true_eq] at hok
    obtain ⟨⟨n1, n2⟩, h1, h2⟩ := hok
    simp only [st1] at h
    split at h
    · rename_i a r
      simp only [Option.some.injEq, Prod.mk.injEq] at h
      obtain ⟨rfl, rfl, rfl, rfl⟩ := h
      obtain ⟨va, hr⟩ := List.forall_mem_cons.mp hVs
      refine ⟨⟨hVL, ok_cons (Vok_l.mpr (in64_w _)) hr, hM⟩, hro, rfl, n1, fun k => ?_⟩
      rw [n2, h2] at k
      exact go_lneg K (dec_of hdec h1 h2) k
    · cases h
  | i2l =>
    simp only [okE, okN, Bool.and_eq_true, decide_eq_true_eq] at hok
    obtain ⟨⟨n1, n2⟩, h1, h2⟩ := hok
    simp only [st1] at h
    split at h
    · rename_i a r
      simp only [Option.some.injEq, Prod.mk.injEq] at h
      obtain ⟨rfl, rfl, rfl, rfl⟩ := h
      obtain ⟨va, hr⟩ := List.forall_mem_cons.mp hVs
      refine ⟨⟨hVL, ok_cons (Vok_l.mpr (in64_32 (Vok_i.mp va))) hr, hM⟩, hro, rfl, n1, fun k => ?_⟩
      rw [n2, h2] at k
      exact go_i2l K (Vok_i.mp va) (dec_of hdec h1 h2) k
    · cases h
  | l2i =>
    simp only [okE, okN, Bool.and_eq_true, decide_eq_true_eq] at hok
    obtain ⟨⟨n1, n2⟩, h1, h2⟩ := hok
    simp only [st1] at h
    split at h
    · rename_i a r
      simp only [Option.some.injEq, Prod.mk.injEq] at h
      obtain ⟨rfl, rfl, rfl, rfl⟩ := h
      obtain ⟨va, hr⟩ := List.forall_mem_cons.mp hVs
      refine ⟨⟨hVL, ok_cons (Vok_i.mpr (in32_w _)) hr, hM⟩, hro, rfl, n1, fun k => ?_⟩
      rw [n2, h2] at k
      exact go_l2i K (dec_of hdec h1 h2) k
    · cases h
  | i2c =>
    simp only [okE, okN, Bool.and_eq_true, decide_eq_true_eq] at hok
    obtain ⟨⟨n1, n2⟩, h1, h2⟩ := hok
    simp only [st1] at h
    split at h
    · rename_i a r
      simp only [Option.some.injEq, Prod.mk.injEq] at h
      obtain ⟨rfl, rfl, rfl, rfl⟩ := h
      obtain ⟨va, hr⟩ := List.forall_mem_cons.mp hVs
      refine ⟨⟨hVL, ok_cons (Vok_i.mpr (in32_to _)) hr, hM⟩, hro, rfl, n1, fun k => ?_⟩
      rw [n2, h2] at k
      exact go_i2c K (dec_of hdec h1 h2) k
    · cases h
  | lcmp =>
    simp only [okE, okN, Bool.and_eq_true, decide_eq_true_eq] at hok
    obtain ⟨⟨n1, n2⟩, h1, h2⟩ := hok
    simp only [st1] at h
    split at h
    · rename_i b' a r
      simp only [Option.some.injEq, Prod.mk.injEq] at h
      obtain ⟨rfl, rfl, rfl, rfl⟩ := h
      obtain ⟨va, hr⟩ := List.forall_mem_cons.mp hVs
      obtain ⟨va2, hr⟩ := List.forall_mem_cons.mp hr
      refine ⟨⟨hVL, ok_cons (Vok_i.mpr (by unfold lcm in32; split <;> (try split) <;> omega)) hr, hM⟩, hro, rfl, n1, fun k => ?_⟩
      rw [n2, h2] at k
      exact go_lcmp K (Vok_l.mp va2) (Vok_l.mp va) (dec_of hdec h1 h2) k
    · cases h
  | dup =>
    simp only [okE, okN, Bool.and_eq_true, decide_eq_true_eq] at hok
    obtain ⟨⟨n1, n2⟩, h1, h2⟩ := hok
    simp only [st1] at h
    split at h
    · rename_i t a r
      split at h
      · cases h
      · rename_i ht
        simp only [Option.some.injEq, Prod.mk.injEq] at h
        obtain ⟨rfl, rfl, rfl, rfl⟩ := h
        obtain ⟨va, hr⟩ := List.forall_mem_cons.mp hVs
        refine ⟨⟨hVL, ok_cons va (ok_cons va hr), hM⟩, hro, rfl, n1, fun k => ?_⟩
        rw [n2, h2] at k
        exact go_dup K (fun z => ht (Or.inl z)) (dec_of hdec h1 h2) k
    · cases h
  | dup2 =>
    simp only [okE, okN, Bool.and_eq_true, decide_eq_true_eq] at hok
    obtain ⟨⟨n1, n2⟩, h1, h2⟩ := hok
    simp only [st1] at h
    split at h
    · rename_i t a u b' r
      split at h
      · cases h
      · rename_i ht
        simp only [Option.some.injEq, Prod.mk.injEq] at h
        obtain ⟨rfl, rfl, rfl, rfl⟩ := h
        obtain ⟨va, hr⟩ := List.forall_mem_cons.mp hVs
        obtain ⟨vb, hr⟩ := List.forall_mem_cons.mp hr
        refine ⟨⟨hVL, ok_cons va (ok_cons vb (ok_cons va (ok_cons vb hr))), hM⟩, hro, rfl, n1, fun k => ?_⟩
        rw [n2, h2] at k
        exact go_dup2 K (fun z => ht (Or.inl z)) (fun z => ht (Or.inr (Or.inr (Or.inl z)))) (dec_of hdec h1 h2) k
    · cases h
  | pop =>
    simp only [okE, okN, Bool.and_eq_true, decide_eq_true_eq] at hok
    obtain ⟨⟨n1, n2⟩, h1, h2⟩ := hok
    simp only [st1] at h
    split at h
    · rename_i t a r
      split at h
      · cases h
      · rename_i ht
        simp only [Option.some.injEq, Prod.mk.injEq] at h
        obtain ⟨rfl, rfl, rfl, rfl⟩ := h
        obtain ⟨va, hr⟩ := List.forall_mem_cons.mp hVs
        refine ⟨⟨hVL, hr, hM⟩, hro, rfl, n1, fun k => ?_⟩
        rw [n2, h2] at k
        exact go_pop K (fun z => ht (Or.inl z)) (dec_of hdec h1 h2) k
    · cases h
  | goto t =>
    simp only [okE, okT, Bool.and_eq_true, decide_eq_true_eq] at hok
    obtain ⟨⟨t1, t2, t3⟩, h1, h2⟩ := hok
    simp only [st1, Option.some.injEq, Prod.mk.injEq] at h
    obtain ⟨rfl, rfl, rfl, rfl⟩ := h
    exact ⟨⟨hVL, hVs, hM⟩, hro, rfl, t2, fun k => go_goto K (dec_of hdec h1 h2) t3 k⟩
  | if_icmp cd t =>
    simp only [okE, okN, okT, Bool.and_eq_true, decide_eq_true_eq] at hok
    obtain ⟨⟨n1, n2⟩, ⟨t1, t2, t3⟩, h1, h2⟩ := hok
    simp only [st1] at h
    split at h
    · rename_i b' a r
      simp only [Option.some.injEq, Prod.mk.injEq] at h
      obtain ⟨rfl, rfl, rfl, rfl⟩ := h
      obtain ⟨vb, hr⟩ := List.forall_mem_cons.mp hVs
      obtain ⟨va, hr⟩ := List.forall_mem_cons.mp hr
      by_cases hc : cmpB cd a b' = true
      · rw [if_pos hc]
        exact ⟨⟨hVL, hr, hM⟩, hro, rfl, t2, fun k => go_icmp K (Vok_i.mp va) (Vok_i.mp vb) (dec_of hdec h1 h2) t3 (fun _ => k) (fun z => absurd hc z)⟩
      · rw [if_neg hc]
        refine ⟨⟨hVL, hr, hM⟩, hro, rfl, n1, fun k => ?_⟩
        rw [n2, h2] at k
        exact go_icmp K (Vok_i.mp va) (Vok_i.mp vb) (dec_of hdec h1 h2) t3 (fun z => absurd z hc) (fun _ => k)
    · cases h
  | ifCond cd t =>
    simp only [okE, okN, okT, Bool.and_eq_true, decide_eq_true_eq] at hok
    obtain ⟨⟨n1, n2⟩, ⟨t1, t2, t3⟩, h1, h2⟩ := hok
    simp only [st1] at h
    split at h
    · rename_i a r
      simp only [Option.some.injEq, Prod.mk.injEq] at h
      obtain ⟨rfl, rfl, rfl, rfl⟩ := h
      obtain ⟨va, hr⟩ := List.forall_mem_cons.mp hVs
      by_cases hc : cmpB cd a 0 = true
      · rw [if_pos hc]
        exact ⟨⟨hVL, hr, hM⟩, hro, rfl, t2, fun k => go_if K (Vok_i.mp va) (dec_of hdec h1 h2) t3 (fun _ => k) (fun z => absurd hc z)⟩
      · rw [if_neg hc]
        refine ⟨⟨hVL, hr, hM⟩, hro, rfl, n1, fun k => ?_⟩
        rw [n2, h2] at k
        exact go_if K (Vok_i.mp va) (dec_of hdec h1 h2) t3 (fun z => absurd z hc) (fun _ => k)
    · cases h
  | tableswitch d lo hi ts =>
    simp only [okE, Bool.and_eq_true, decide_eq_true_eq, List.all_eq_true, List.mem_range] at hok
    obtain ⟨hd0, ⟨h1, h2⟩, hall⟩ := hok
    simp only [st1] at h
    split at h
    · rename_i x r
      simp only [Option.some.injEq, Prod.mk.injEq] at h
      obtain ⟨rfl, rfl, rfl, rfl⟩ := h
      obtain ⟨va, hr⟩ := List.forall_mem_cons.mp hVs
      have hdx := hdec
      rw [h1] at hdx
      rw [tsw_ok]
      by_cases hin : x < lo ∨ lo + ts.toList.length ≤ x
      · rw [if_pos hin]
        simp only [okT, decide_eq_true_eq] at hd0
        refine ⟨⟨hVL, hr, hM⟩, hro, rfl, hd0.2.1, fun k => go_tsw (d := d) K (Vok_i.mp va) hdx rfl h2 (fun _ => trivial) (fun j hj hz => ?_) (fun _ => hd0.2.2) k⟩
        exfalso
        omega
      · rw [if_neg hin]
        have hj : (x - lo).toNat < ts.toList.length := by omega
        have h9 := hall _ hj
        simp only [okT, decide_eq_true_eq] at h9
        refine ⟨⟨hVL, hr, hM⟩, hro, rfl, h9.2.1, fun k => go_tsw (d := d) K (Vok_i.mp va) hdx rfl h2 (fun _ => trivial) (fun j hj hz => ?_) (fun z => absurd z hin) k⟩
        have : j = (x - lo).toNat := by omega
        subst this
        exact h9.2.2
    · cases h
  | lookupswitch d ps =>
    simp only [okE, Bool.and_eq_true, decide_eq_true_eq] at hok
    obtain ⟨hd0, ⟨h1, h2, h3⟩, hall⟩ := hok
    simp only [st1] at h
    split at h
    · rename_i x r
      simp only [Option.some.injEq, Prod.mk.injEq] at h
      obtain ⟨rfl, rfl, rfl, rfl⟩ := h
      obtain ⟨va, hr⟩ := List.forall_mem_cons.mp hVs
      have hdx := hdec
      rw [h1] at hdx
      have h9 := lsw_ok (B := B) (b := b) _ _ x hd0 _ _ h3 hall
      simp only [okT, decide_eq_true_eq] at h9
      exact ⟨⟨hVL, hr, hM⟩, hro, rfl, h9.2.1, fun k => go_lsw K (Vok_i.mp va) hdx h2 rfl h9.2.2 k⟩
    · cases h
  | multianewarray ci k =>
    simp only [okE, okN, Bool.and_eq_true, Bool.or_eq_true, decide_eq_true_eq] at hok
    obtain ⟨⟨n1, n2⟩, ⟨h1, h2, hc⟩, hf⟩ := hok
    simp only [st1] at h
    obtain ⟨o, r, v, rfl, hk, hv, hq⟩ := gtf_inv h
    cases hq
    obtain ⟨vo, hr⟩ := List.forall_mem_cons.mp hVs
    have ho : (o, ci + 10) ∈ UNI := Vok_ob vo (by omega)
    have hM1 := hM _ ho k
    simp only [sOk, Nat.add_sub_cancel] at hM1
    have hvv : Vok v ∧ cv ad v = fv ad m o ci k := by
      rcases hv with ⟨hf0, rfl⟩ | ⟨hf1, rfl⟩ | ⟨hn0, hn1, rfl⟩
      · have hn1 : ¬ FT ci k = 1 := by omega
        rw [if_neg (by have : ¬ aty (ci + 10) = 1 := (fun z => arr_kind z (by omega) (by omega)); omega)] at hM1
        exact ⟨hM1, by rw [cv_i, fv, if_neg hn1, if_pos hf0]⟩
      · rw [if_pos (Or.inl ⟨by omega, hf1⟩)] at hM1
        exact ⟨hM1, by rw [cv_l, fv, if_pos hf1]⟩
      · have hft := cl_ft ci hc k hk
        have h10 : 10 ≤ FT ci k := by omega
        have hu := UNI_fld _ ho (by simp only; omega) k (by simpa using hk) (by simpa using h10)
        simp only [Nat.add_sub_cancel] at hu
        exact ⟨Vok_o hu, by rw [cv_o ad _ hu, fv, if_neg hn1, if_neg hn0]⟩
    refine ⟨⟨hVL, ok_cons hvv.1 hr, hM⟩, hro, rfl, n1, fun kk => ?_⟩
    rw [n2, h2] at kk
    rcases hf with hf | hf
    · exact go_getf K false (FLT_w hf) hc hk ho hvv.2 (dec_of hdec h1 h2) kk
    · exact go_getf K true (FLT_w hf) hc hk ho hvv.2 (dec_of hdec h1 h2) kk
  | invokeinterface ci k =>
    simp only [okE, okN, Bool.and_eq_true, Bool.or_eq_true, decide_eq_true_eq] at hok
    obtain ⟨⟨n1, n2⟩, ⟨h1, h2, hc⟩, hf⟩ := hok
    simp only [st1] at h
    obtain ⟨o, r, tv, v, rfl, hk, hv, hq⟩ := ptf_inv h
    cases hq
    obtain ⟨vv, hr⟩ := List.forall_mem_cons.mp hVs
    obtain ⟨vo, hr⟩ := List.forall_mem_cons.mp hr
    have ho : (o, ci + 10) ∈ UNI := Vok_ob vo (by omega)
    have na : ¬ aty (ci + 10) = 1 := fun z => arr_kind z (by omega) (by omega)
    have hall : sOk (ci + 10) k v ∧ FT ci k < 10 ∧ cv ad (tv, v) = fv ad (up m o k v) o ci k ∧ narrow (CTy ci k) (cv ad (tv, v)) = cv ad (tv, v) ∧ fits (CTy ci k) (cv ad (tv, v)) = true := by
      rcases hv with ⟨hf0, rfl⟩ | ⟨hf1, rfl⟩ | ⟨hf2, rfl, hb⟩
      · refine ⟨?_, by omega, ?_, ?_, ?_⟩
        · simp only [sOk, Nat.add_sub_cancel]
          rw [if_neg (by omega)]
          exact vv
        · rw [cv_i, fv, if_neg (by omega), if_pos (Or.inl hf0), up_same]
        · rw [cl_t0 ci hc k hk hf0]; rfl
        · rw [cl_t0 ci hc k hk hf0]; rfl
      · refine ⟨?_, by omega, ?_, ?_, ?_⟩
        · simp only [sOk, Nat.add_sub_cancel]
          rw [if_pos (Or.inl ⟨by omega, hf1⟩)]
          exact vv
        · rw [cv_l, fv, if_pos hf1, up_same]
        · rw [cl_t1 ci hc k hk hf1]; rfl
        · rw [cl_t1 ci hc k hk hf1]; rfl
      · refine ⟨?_, by omega, ?_, ?_, ?_⟩
        · simp only [sOk, Nat.add_sub_cancel]
          rw [if_neg (by omega)]
          exact vv
        · rw [cv_i, fv, if_neg (by omega), if_pos (Or.inr hf2), up_same]
        · rw [cl_t2 ci hc k hk hf2]; rcases hb with rfl | rfl <;> rfl
        · rw [cl_t2 ci hc k hk hf2]; rcases hb with rfl | rfl <;> rfl
    obtain ⟨s1, s2, s3, s4, s5⟩ := hall
    refine ⟨⟨hVL, hr, Mok_up hM ho s1⟩, roU ho, rfl, n1, fun kk => ?_⟩
    rw [n2, h2] at kk
    rcases hf with hf | hf
    · exact go_putf K false (FLT_w hf) hc hk ho s2 s3 s4 s5 (dec_of hdec h1 h2) kk
    · exact go_putf K true (FLT_w hf) hc hk ho s2 s3 s4 s5 (dec_of hdec h1 h2) kk
  | iaload =>
    simp only [okE, okN, Bool.and_eq_true, decide_eq_true_eq] at hok
    obtain ⟨⟨n1, n2⟩, h1, h2⟩ := hok
    simp only [st1] at h
    unfold sld at h
    split at h
    · rename_i i t o r
      obtain ⟨vi, hr1⟩ := List.forall_mem_cons.mp hVs
      obtain ⟨vo, hr⟩ := List.forall_mem_cons.mp hr1
      clear hr1
      split at h
      · rename_i ht
        subst ht
        split at h
        · rename_i hi
          simp only [Option.some.injEq, Prod.mk.injEq] at h
          obtain ⟨rfl, rfl, rfl, rfl⟩ := h
          obtain ⟨Ls, xs, -, -, -, hl, -, hx⟩ := S.1
          have e1 := hx i.toNat (by rw [hl] at hi; omega)
          rw [Int.toNat_of_nonneg hi.1] at e1
          refine ⟨⟨hVL, ok_cons (Vok_i.mpr (by rw [e1]; exact in32_to _)) hr, hM⟩, hro, rfl, n1, fun k => ?_⟩
          rw [n2, h2] at k
          exact go_sld K S (Vok_i.mp vi) hi.1 hi.2 (dec_of hdec h1 h2) k
        · cases h
      · split at h
        · rename_i ht0 ht
          subst ht
          split at h
          · rename_i hi
            simp only [Option.some.injEq, Prod.mk.injEq] at h
            obtain ⟨rfl, rfl, rfl, rfl⟩ := h
            obtain ⟨xs, -, -, -, hx⟩ := S.2.1
            have e1 := hx i.toNat (by omega)
            rw [Int.toNat_of_nonneg hi.1] at e1
            refine ⟨⟨hVL, ok_cons (Vok_i.mpr (by rw [e1]; exact in32_to _)) hr, hM⟩, hro, rfl, n1, fun k => ?_⟩
            rw [n2, h2] at k
            exact go_tld K S (Vok_i.mp vi) hi.1 hi.2 (dec_of hdec h1 h2) k
          · cases h
        · obtain ⟨i', t', o', r', he, ha, h0, hi1, hq⟩ := ald_inv h
          cases he
          cases hq
          have ho : (o, t) ∈ UNI := Vok_ob vo (by have := arr_kind ha (by omega); omega)
          refine ⟨⟨hVL, ok_cons (Vok_i.mpr (sOk_arr (Or.inl ha) (mok_rd hM ho h0))) hr, hM⟩, hro, rfl, n1, fun k => ?_⟩
          rw [n2, h2] at k
          exact go_iald K ho ha (Vok_i.mp vi) h0 hi1 (dec_of hdec h1 h2) k
    · cases h
  | laload =>
    simp only [okE, okN, Bool.and_eq_true, decide_eq_true_eq] at hok
    obtain ⟨⟨n1, n2⟩, h1, h2⟩ := hok
    simp only [st1] at h
    obtain ⟨i, t, o, r, rfl, ha, h0, hi1, hq⟩ := ald_inv h
    cases hq
    obtain ⟨vi, hr⟩ := List.forall_mem_cons.mp hVs
    obtain ⟨vo, hr⟩ := List.forall_mem_cons.mp hr
    have ho : (o, t) ∈ UNI := Vok_ob vo (by have := arr_kind ha (by omega); omega)
    refine ⟨⟨hVL, ok_cons (Vok_l.mpr (sOk_larr ha (mok_rd hM ho h0))) hr, hM⟩, hro, rfl, n1, fun k => ?_⟩
    rw [n2, h2] at k
    exact go_lald K ho ha (Vok_i.mp vi) h0 hi1 (dec_of hdec h1 h2) k
  | baload =>
    simp only [okE, okN, Bool.and_eq_true, decide_eq_true_eq] at hok
    obtain ⟨⟨n1, n2⟩, h1, h2⟩ := hok
    simp only [st1] at h
    obtain ⟨i, t, o, r, rfl, ha, h0, hi1, hq⟩ := ald_inv h
    cases hq
    obtain ⟨vi, hr⟩ := List.forall_mem_cons.mp hVs
    obtain ⟨vo, hr⟩ := List.forall_mem_cons.mp hr
    have ho : (o, t) ∈ UNI := Vok_ob vo (by have := arr_kind ha (by omega); omega)
    refine ⟨⟨hVL, ok_cons (Vok_i.mpr (sOk_arr (Or.inr ha) (mok_rd hM ho h0))) hr, hM⟩, hro, rfl, n1, fun k => ?_⟩
    rw [n2, h2] at k
    exact go_zald K ho ha (Vok_i.mp vi) h0 hi1 (dec_of hdec h1 h2) k
  | aaload =>
    simp only [okE, okN, Bool.and_eq_true, decide_eq_true_eq] at hok
    obtain ⟨⟨n1, n2⟩, h1, h2⟩ := hok
    simp only [st1] at h
    obtain ⟨i, t, o, r, tr, rfl, ha, h0, hi1, hq⟩ := rld_inv h
    cases hq
    obtain ⟨vi, hr⟩ := List.forall_mem_cons.mp hVs
    obtain ⟨vo, hr⟩ := List.forall_mem_cons.mp hr
    have ho : (o, t) ∈ UNI := Vok_ob vo (by
      rcases ha with ⟨ha, -⟩ | ⟨ha, -⟩
      · have := arr_kind ha (by omega); omega
      · have := arr_kind ha (by omega); omega)
    have hm : (PA (aty t) o i, tr) ∈ UNI := by
      have e0 : ((i.toNat : Nat) : Int) = i := Int.toNat_of_nonneg h0
      have hlt : i.toNat < (t - 100) / 8 := by
        rw [aln_nat] at hi1
        omega
      rcases ha with ⟨ha, rfl⟩ | ⟨ha, rfl⟩
      · have := UNI_arr3 _ ho ha i.toNat hlt
        simp only at this
        rw [e0] at this
        rw [ha]
        exact this
      · have := UNI_arr4 _ ho ha i.toNat hlt
        simp only at this
        rw [e0] at this
        rw [ha]
        exact this
    refine ⟨⟨hVL, ok_cons (Vok_o hm) hr, hM⟩, hro, rfl, n1, fun k => ?_⟩
    rw [n2, h2] at k
    exact go_aald K ho ha (Vok_i.mp vi) h0 hi1 (dec_of hdec h1 h2) k
  | iastore =>
    simp only [okE, okN, Bool.and_eq_true, decide_eq_true_eq] at hok
    obtain ⟨⟨n1, n2⟩, h1, h2⟩ := hok
    simp only [st1] at h
    obtain ⟨v, i, t, o, r, rfl, ha, h0, hi1, hq⟩ := ast_inv h
    cases hq
    obtain ⟨vv, hr⟩ := List.forall_mem_cons.mp hVs
    obtain ⟨vi, hr⟩ := List.forall_mem_cons.mp hr
    obtain ⟨vo, hr⟩ := List.forall_mem_cons.mp hr
    have ho : (o, t) ∈ UNI := Vok_ob vo (by have := arr_kind ha (by omega); omega)
    refine ⟨⟨hVL, hr, by rw [up_nat h0]; exact Mok_up hM ho (sOk_arr' (Or.inl ha) (Vok_i.mp vv))⟩, roU ho, rfl, n1, fun k => ?_⟩
    rw [n2, h2] at k
    exact go_iast K ho ha (Vok_i.mp vi) h0 hi1 (dec_of hdec h1 h2) k
  | lastore =>
    simp only [okE, okN, Bool.and_eq_true, decide_eq_true_eq] at hok
    obtain ⟨⟨n1, n2⟩, h1, h2⟩ := hok
    simp only [st1] at h
    obtain ⟨v, i, t, o, r, rfl, ha, h0, hi1, hq⟩ := ast_inv h
    cases hq
    obtain ⟨vv, hr⟩ := List.forall_mem_cons.mp hVs
    obtain ⟨vi, hr⟩ := List.forall_mem_cons.mp hr
    obtain ⟨vo, hr⟩ := List.forall_mem_cons.mp hr
    have ho : (o, t) ∈ UNI := Vok_ob vo (by have := arr_kind ha (by omega); omega)
    refine ⟨⟨hVL, hr, by rw [up_nat h0]; exact Mok_up hM ho (sOk_larr' ha (Vok_l.mp vv))⟩, roU ho, rfl, n1, fun k => ?_⟩
    rw [n2, h2] at k
    exact go_last K ho ha (Vok_i.mp vi) h0 hi1 (dec_of hdec h1 h2) k
  | bastore =>
    simp only [okE, okN, Bool.and_eq_true, decide_eq_true_eq] at hok
    obtain ⟨⟨n1, n2⟩, h1, h2⟩ := hok
    simp only [st1] at h
    obtain ⟨v, i, t, o, r, rfl, ha, hb, h0, hi1, hq⟩ := bst_inv h
    cases hq
    obtain ⟨vv, hr⟩ := List.forall_mem_cons.mp hVs
    obtain ⟨vi, hr⟩ := List.forall_mem_cons.mp hr
    obtain ⟨vo, hr⟩ := List.forall_mem_cons.mp hr
    have ho : (o, t) ∈ UNI := Vok_ob vo (by have := arr_kind ha (by omega); omega)
    refine ⟨⟨hVL, hr, by rw [up_nat h0]; exact Mok_up hM ho (sOk_arr' (Or.inr ha) (Vok_i.mp vv))⟩, roU ho, rfl, n1, fun k => ?_⟩
    rw [n2, h2] at k
    exact go_zast K ho ha hb (Vok_i.mp vi) h0 hi1 (dec_of hdec h1 h2) k
  | arraylength =>
    simp only [okE, okN, Bool.and_eq_true, decide_eq_true_eq] at hok
    obtain ⟨⟨n1, n2⟩, h1, h2⟩ := hok
    simp only [st1] at h
    split at h
    · rename_i t o r
      obtain ⟨vo, hr⟩ := List.forall_mem_cons.mp hVs
      split at h
      · rename_i ht
        subst ht
        simp only [Option.some.injEq, Prod.mk.injEq] at h
        obtain ⟨rfl, rfl, rfl, rfl⟩ := h
        obtain ⟨Ls, xs, -, -, -, hl, hlt, hx⟩ := S.1
        refine ⟨⟨hVL, ok_cons (Vok_i.mpr (by rw [hl]; unfold in32; omega)) hr, hM⟩, hro, rfl, n1, fun k => ?_⟩
        rw [n2, h2] at k
        exact go_slen K S (dec_of hdec h1 h2) k
      · split at h
        · cases h
        · rename_i ht0 ha
          simp only [Option.some.injEq, Prod.mk.injEq] at h
          obtain ⟨rfl, rfl, rfl, rfl⟩ := h
          have ho : (o, t) ∈ UNI := Vok_ob vo (by
            have : ¬ t < 100 := fun z => ha (by unfold aty; rw [if_pos z])
            omega)
          refine ⟨⟨hVL, ok_cons (Vok_i.mpr (in32_aln ho ha)) hr, hM⟩, hro, rfl, n1, fun k => ?_⟩
          rw [n2, h2] at k
          exact go_alen K ho ha (dec_of hdec h1 h2) k
    · cases h
  | getstatic x0 =>
    simp only [okE, okN, Bool.and_eq_true, decide_eq_true_eq] at hok
    obtain ⟨⟨n1, n2⟩, h1, h2, h3⟩ := hok
    simp only [st1, Option.some.injEq, Prod.mk.injEq] at h
    obtain ⟨rfl, rfl, rfl, rfl⟩ := h
    refine ⟨⟨hVL, ok_cons trivial hVs, hM⟩, hro, rfl, n1, fun k => ?_⟩
    rw [n2, h2] at k
    exact go_tried K S (idx := 94) (by rw [h3]; exact List.mem_cons_self) (dec_of hdec h1 h2) k
  | ret n =>
    simp only [okE, okN, Bool.and_eq_true, decide_eq_true_eq] at hok
    obtain ⟨⟨n1, n2⟩, h1, h2, h3⟩ := hok
    simp only [st1] at h
    rcases mth_inv h with ⟨a, b', r, rfl, rfl, hc, hq⟩ | ⟨a, b', r, rfl, rfl, hc, hq⟩ | ⟨a, r, rfl, rfl, hc, hq⟩ | ⟨a, b', r, rfl, rfl, hc, hq⟩ | ⟨a, b', r, rfl, rfl, hc, hq⟩
    · cases hq
      obtain ⟨vb, hr⟩ := List.forall_mem_cons.mp hVs
      obtain ⟨va, hr⟩ := List.forall_mem_cons.mp hr
      refine ⟨⟨hVL, ok_cons (Vok_i.mpr (by have := Vok_i.mp va; have := Vok_i.mp vb; unfold in32 at *; omega)) hr, hM⟩, hro, rfl, n1, fun k => ?_⟩
      rw [n2, h2] at k
      exact go_mmax K (Vok_i.mp va) (Vok_i.mp vb) hce hsl hc (MAT_w h3) (dec_of hdec h1 h2) k
    · cases hq
      obtain ⟨vb, hr⟩ := List.forall_mem_cons.mp hVs
      obtain ⟨va, hr⟩ := List.forall_mem_cons.mp hr
      refine ⟨⟨hVL, ok_cons (Vok_i.mpr (by have := Vok_i.mp va; have := Vok_i.mp vb; unfold in32 at *; omega)) hr, hM⟩, hro, rfl, n1, fun k => ?_⟩
      rw [n2, h2] at k
      exact go_mmin K (Vok_i.mp va) (Vok_i.mp vb) hce hsl hc (MAT_w h3) (dec_of hdec h1 h2) k
    · cases hq
      obtain ⟨va, hr⟩ := List.forall_mem_cons.mp hVs
      refine ⟨⟨hVL, ok_cons (Vok_i.mpr (by split; exact Vok_i.mp va; exact in32_w _)) hr, hM⟩, hro, rfl, n1, fun k => ?_⟩
      rw [n2, h2] at k
      exact go_mabs K (Vok_i.mp va) hce hsl hc (MAT_w h3) (dec_of hdec h1 h2) k
    · cases hq
      obtain ⟨vb, hr⟩ := List.forall_mem_cons.mp hVs
      obtain ⟨va, hr⟩ := List.forall_mem_cons.mp hr
      refine ⟨⟨hVL, ok_cons (Vok_l.mpr (by have := Vok_l.mp va; have := Vok_l.mp vb; unfold in64 at *; omega)) hr, hM⟩, hro, rfl, n1, fun k => ?_⟩
      rw [n2, h2] at k
      exact go_mmaxJ K (Vok_l.mp va) (Vok_l.mp vb) hce hsl hc (MAT_w h3) (dec_of hdec h1 h2) k
    · cases hq
      obtain ⟨vb, hr⟩ := List.forall_mem_cons.mp hVs
      obtain ⟨va, hr⟩ := List.forall_mem_cons.mp hr
      refine ⟨⟨hVL, ok_cons (Vok_l.mpr (by have := Vok_l.mp va; have := Vok_l.mp vb; unfold in64 at *; omega)) hr, hM⟩, hro, rfl, n1, fun k => ?_⟩
      rw [n2, h2] at k
      exact go_mminJ K (Vok_l.mp va) (Vok_l.mp vb) hce hsl hc (MAT_w h3) (dec_of hdec h1 h2) k
  | ldc t =>
    simp only [okE, okN, Bool.and_eq_true, Bool.or_eq_true, decide_eq_true_eq] at hok
    obtain ⟨⟨n1, n2⟩, h3, ho⟩ := hok
    simp only [st1] at h
    split at h
    · simp only [Option.some.injEq, Prod.mk.injEq] at h
      obtain ⟨rfl, rfl, rfl, rfl⟩ := h
      rcases ho with ⟨rfl, h1, h2⟩ | ⟨rfl, h1, h2⟩
      · refine ⟨⟨hVL, ok_cons trivial hVs, hM⟩, hro, rfl, n1, fun k => ?_⟩
        rw [n2, h2] at k
        intro H locs ls hP hD hS hL
        exact va_ldcS K.1 K.2.1 K.2.2.2.1 (by rw [h3]; exact S.2.2.2.2.1) (dec_of hdec h1 h2) (k H locs ls hP hD hS hL)
      · refine ⟨⟨hVL, ok_cons trivial hVs, hM⟩, hro, rfl, n1, fun k => ?_⟩
        rw [n2, h2] at k
        intro H locs ls hP hD hS hL
        exact va_ldcS K.1 K.2.1 K.2.2.2.1 (by rw [h3]; exact S.2.2.2.2.2.1) (dec_of hdec h1 h2) (k H locs ls hP hD hS hL)
    · cases h
  | invokedynamic n =>
    simp only [okE, okN, Bool.and_eq_true, Bool.or_eq_true, decide_eq_true_eq] at hok
    obtain ⟨⟨n1, n2⟩, ho⟩ := hok
    rcases ho with ⟨rfl, h1, h2, h3⟩ | ⟨h3, hn, h1, h2, h4⟩
    · simp only [st1, if_true] at h
      obtain ⟨n, dp, td, d, sp, ts, a, rfl, ha, ha2, i0, i1, i2, i3, i4, hq⟩ := acp_inv h
      cases hq
      obtain ⟨vn, hr⟩ := List.forall_mem_cons.mp hVs
      obtain ⟨vdp, hr⟩ := List.forall_mem_cons.mp hr
      obtain ⟨vd, hr⟩ := List.forall_mem_cons.mp hr
      obtain ⟨vsp, hr⟩ := List.forall_mem_cons.mp hr
      obtain ⟨vs, hr⟩ := List.forall_mem_cons.mp hr
      have ho : (a, ts) ∈ UNI := Vok_ob vs (by have := arr_kind ha (by omega); omega)
      have ho2 : (d, td) ∈ UNI := Vok_ob vd (by have := arr_kind ha2 (by omega); omega)
      have hlt := UNI_lt _ ho2
      simp only at hlt
      refine ⟨⟨hVL, hr, Mok_cpy hM ho ho2 ha ha2 i1⟩, ⟨fun z => ?_, fun z => ?_⟩, rfl, n1, fun k => ?_⟩
      · unfold cpy; rw [if_neg (by omega)]
      · unfold cpy; rw [if_neg (by omega)]
      · rw [n2, h2] at k
        exact go_acp K (ACT_w h3) acp_nat acp_sta acp_ini ho ho2 ha ha2 (Vok_i.mp vn) (Vok_i.mp vsp) (Vok_i.mp vdp) i0 i1 i2 i3 i4 (dec_of hdec h1 h2) k
    · have hs := hst h3
      have hinv : StOk L' st' m' ∧ L' = L ∧ m' = m ∧ pc' = pc + 1 := by
        have h' := h
        simp only [st1, if_neg hn] at h'
        have in32w : ∀ x : Int, in32 (wchar x) := by
          intro x
          unfold wchar
          have hall : ∀ v ∈ WORDSL, in32 v := by unfold in32; decide +kernel
          rw [List.getD_eq_getElem?_getD]
          cases hx : WORDSL[x.toNat]? with
          | none => exact in32_lit0
          | some v => exact hall v (List.mem_of_getElem? hx)
        have in32x : ∀ (l : List Int) (c k : Int), 0 ≤ k → k + l.length ≤ 1000 → in32 (idxOf l c k) := by
          intro l
          induction l with
          | nil => intro c k _ _; unfold idxOf in32; omega
          | cons x r ih =>
            intro c k h0 h1
            unfold idxOf
            simp only [List.length_cons] at h1
            split
            · unfold in32; omega
            · exact ih c (k + 1) (by omega) (by omega)
        split at h'
        · split at h'
          · simp only [Option.some.injEq, Prod.mk.injEq] at h'
            obtain ⟨rfl, rfl, rfl, rfl⟩ := h'
            exact ⟨⟨hVL, ok_cons (Vok_i.mpr (by unfold in32; omega)) (fun _ z => by cases z), hM⟩, rfl, rfl, rfl⟩
          · simp only [Option.some.injEq, Prod.mk.injEq] at h'
            obtain ⟨rfl, rfl, rfl, rfl⟩ := h'
            obtain ⟨_, hr⟩ := List.forall_mem_cons.mp hVs
            exact ⟨⟨hVL, ok_cons (Vok_i.mpr (by unfold in32; omega)) hr, hM⟩, rfl, rfl, rfl⟩
          · cases h'
        · split at h'
          · split at h'
            · split at h'
              · simp only [Option.some.injEq, Prod.mk.injEq] at h'
                obtain ⟨rfl, rfl, rfl, rfl⟩ := h'
                exact ⟨⟨hVL, ok_cons (Vok_i.mpr (in32w _)) (fun _ z => by cases z), hM⟩, rfl, rfl, rfl⟩
              · cases h'
            · cases h'
          · split at h'
            · split at h'
              · simp only [Option.some.injEq, Prod.mk.injEq] at h'
                obtain ⟨rfl, rfl, rfl, rfl⟩ := h'
                exact ⟨⟨hVL, ok_cons (Vok_i.mpr (in32x _ _ _ (by omega) (by decide))) (fun _ z => by cases z), hM⟩, rfl, rfl, rfl⟩
              · cases h'
            · cases h'
      obtain ⟨hV', rfl, rfl, rfl⟩ := hinv
      refine ⟨hV', hro, rfl, n1, fun k => ?_⟩
      rw [n2, h2] at k
      exact hs _ _ _ _ _ _ _ _ _ _ _ (dec_of hdec h1 h2) h4 h k
  | _ => simp [st1] at h
end STEP
/-- the numbers alone: what a step keeps -/
def ScP (m : Mm) : Prop := (∃ (Ls : Nat) (xs : Nat → Int32), m 500 (-1) = (Ls : Int) ∧ Ls < 2 ^ 31 ∧ ∀ j : Nat, j < Ls → m 500 (j : Int) = (xs j).toInt) ∧ (∃ xs : Nat → Int32, ∀ j : Nat, j < 4 → m 501 (j : Int) = (xs j).toInt)
theorem step_pure {own : Nat} {B : List (Nat × Instr × Nat)} {m : Mm} (S : ScP m) {pc pc' : Nat} {L L' st st' : List Vv} {m' : Mm} {i : Instr} {b : Nat × Instr × Nat} (hok : okE own B pc b i = true) (hV : StOk L st m) (h : st1 i pc L st m = some (pc', L', st', m')) :
    StOk L' st' m' ∧ ((∀ z, m' 500 z = m 500 z) ∧ (∀ z, m' 501 z = m 501 z)) ∧ L'.length = L.length ∧ pc' < B.length := by
  obtain ⟨hVL, hVs, hM⟩ := hV
  have hro : (∀ z, m 500 z = m 500 z) ∧ (∀ z, m 501 z = m 501 z) := ⟨fun _ => rfl, fun _ => rfl⟩
  have roU : ∀ {o k v : Int} {t : Nat}, (o, t) ∈ UNI → (∀ z, up m o k v 500 z = m 500 z) ∧ (∀ z, up m o k v 501 z = m 501 z) := by
    intro o k v t ho
    have := UNI_lt _ ho
    simp only at this
    exact ⟨fun z => up_ne (by omega), fun z => up_ne (by omega)⟩
  cases i with
  | iconst v =>
    simp only [okE, okN, Bool.and_eq_true, Bool.or_eq_true, decide_eq_true_eq] at hok
    obtain ⟨⟨n1, n2⟩, hv, ho⟩ := hok
    simp only [st1, Option.some.injEq, Prod.mk.injEq] at h
    obtain ⟨rfl, rfl, rfl, rfl⟩ := h
    exact ⟨⟨hVL, ok_cons (Vok_i.mpr hv) hVs, hM⟩, hro, rfl, n1⟩
  | bipush v =>
    simp only [okE, okN, Bool.and_eq_true, Bool.or_eq_true, decide_eq_true_eq] at hok
    obtain ⟨⟨n1, n2⟩, hv, ho⟩ := hok
    simp only [st1, Option.some.injEq, Prod.mk.injEq] at h
    obtain ⟨rfl, rfl, rfl, rfl⟩ := h
    exact ⟨⟨hVL, ok_cons (Vok_l.mpr hv) hVs, hM⟩, hro, rfl, n1⟩
  | iload i =>
    simp only [okE, okN, Bool.and_eq_true, Bool.or_eq_true, decide_eq_true_eq] at hok
    obtain ⟨⟨n1, n2⟩, ho⟩ := hok
    simp only [st1] at h
    split at h
    · rename_i x hx
      simp only [Option.some.injEq, Prod.mk.injEq] at h
      obtain ⟨rfl, rfl, rfl, rfl⟩ := h
      exact ⟨⟨hVL, ok_cons (hVL _ (List.mem_of_getElem? hx)) hVs, hM⟩, hro, rfl, n1⟩
    · cases h
  | lload i =>
    simp only [okE, okN, Bool.and_eq_true, Bool.or_eq_true, decide_eq_true_eq] at hok
    obtain ⟨⟨n1, n2⟩, ho⟩ := hok
    simp only [st1] at h
    split at h
    · rename_i x hx
      simp only [Option.some.injEq, Prod.mk.injEq] at h
      obtain ⟨rfl, rfl, rfl, rfl⟩ := h
      exact ⟨⟨hVL, ok_cons (hVL _ (List.mem_of_getElem? hx)) hVs, hM⟩, hro, rfl, n1⟩
    · cases h
  | aload i =>
    simp only [okE, okN, Bool.and_eq_true, Bool.or_eq_true, decide_eq_true_eq] at hok
    obtain ⟨⟨n1, n2⟩, ho⟩ := hok
    simp only [st1] at h
    split at h
    · rename_i t x hx
      split at h
      · rename_i ht
        simp only [Option.some.injEq, Prod.mk.injEq] at h
        obtain ⟨rfl, rfl, rfl, rfl⟩ := h
        exact ⟨⟨hVL, ok_cons (hVL _ (List.mem_of_getElem? hx)) hVs, hM⟩, hro, rfl, n1⟩
      · cases h
    · cases h
  | istore i =>
    simp only [okE, okN, Bool.and_eq_true, Bool.or_eq_true, decide_eq_true_eq] at hok
    obtain ⟨⟨n1, n2⟩, ho⟩ := hok
    simp only [st1] at h
    split at h
    · rename_i x r
      split at h
      · rename_i hi
        simp only [Option.some.injEq, Prod.mk.injEq] at h
        obtain ⟨rfl, rfl, rfl, rfl⟩ := h
        obtain ⟨hv, hr⟩ := List.forall_mem_cons.mp hVs
        exact ⟨⟨sto1_ok hVL hv, hr, hM⟩, hro, sto1_len _ _ _, n1⟩
      · cases h
    · cases h
  | lstore i =>
    simp only [okE, okN, Bool.and_eq_true, Bool.or_eq_true, decide_eq_true_eq] at hok
    obtain ⟨⟨n1, n2⟩, ho⟩ := hok
    simp only [st1] at h
    split at h
    · rename_i x r
      split at h
      · rename_i hi
        simp only [Option.some.injEq, Prod.mk.injEq] at h
        obtain ⟨rfl, rfl, rfl, rfl⟩ := h
        obtain ⟨hv, hr⟩ := List.forall_mem_cons.mp hVs
        exact ⟨⟨sto2_ok hVL hv, hr, hM⟩, hro, sto2_len _ _ _, n1⟩
      · cases h
    · cases h
  | astore i =>
    simp only [okE, okN, Bool.and_eq_true, Bool.or_eq_true, decide_eq_true_eq] at hok
    obtain ⟨⟨n1, n2⟩, ho⟩ := hok
    simp only [st1] at h
    split at h
    · rename_i t x r
      split at h
      · rename_i hi
        simp only [Option.some.injEq, Prod.mk.injEq] at h
        obtain ⟨rfl, rfl, rfl, rfl⟩ := h
        obtain ⟨hv, hr⟩ := List.forall_mem_cons.mp hVs
        exact ⟨⟨sto1_ok hVL hv, hr, hM⟩, hro, sto1_len _ _ _, n1⟩
      · cases h
    · cases h
  | iinc i n =>
    simp only [okE, okN, Bool.and_eq_true, decide_eq_true_eq] at hok
    obtain ⟨⟨n1, n2⟩, h1, h2⟩ := hok
    simp only [st1] at h
    split at h
    · rename_i x hx
      simp only [Option.some.injEq, Prod.mk.injEq] at h
      obtain ⟨rfl, rfl, rfl, rfl⟩ := h
      exact ⟨⟨sto1_ok hVL (Vok_i.mpr (in32_w _)), hVs, hM⟩, hro, sto1_len _ _ _, n1⟩
    · cases h
  | iadd =>
    simp only [okE, okN, Bool.and_eq_true, decide_eq_true_eq] at hok
    obtain ⟨⟨n1, n2⟩, h1, h2⟩ := hok
    simp only [st1] at h
    obtain ⟨a, b', r, rfl, hq⟩ := bi2_inv h
    cases hq
    obtain ⟨vb, hr⟩ := List.forall_mem_cons.mp hVs
    obtain ⟨va, hr⟩ := List.forall_mem_cons.mp hr
    exact ⟨⟨hVL, ok_cons (Vok_i.mpr (in32_w _)) hr, hM⟩, hro, rfl, n1⟩
  | isub =>
    simp only [okE, okN, Bool.and_eq_true, decide_eq_true_eq] at hok
    obtain ⟨⟨n1, n2⟩, h1, h2⟩ := hok
    simp only [st1] at h
    obtain ⟨a, b', r, rfl, hq⟩ := bi2_inv h
    cases hq
    obtain ⟨vb, hr⟩ := List.forall_mem_cons.mp hVs
    obtain ⟨va, hr⟩ := List.forall_mem_cons.mp hr
    exact ⟨⟨hVL, ok_cons (Vok_i.mpr (in32_w _)) hr, hM⟩, hro, rfl, n1⟩
  | imul =>
    simp only [okE, okN, Bool.and_eq_true, decide_eq_true_eq] at hok
    obtain ⟨⟨n1, n2⟩, h1, h2⟩ := hok
    simp only [st1] at h
    obtain ⟨a, b', r, rfl, hq⟩ := bi2_inv h
    cases hq
    obtain ⟨vb, hr⟩ := List.forall_mem_cons.mp hVs
    obtain ⟨va, hr⟩ := List.forall_mem_cons.mp hr
    exact ⟨⟨hVL, ok_cons (Vok_i.mpr (in32_w _)) hr, hM⟩, hro, rfl, n1⟩
  | iand =>
    simp only [okE, okN, Bool.and_eq_true, decide_eq_true_eq] at hok
    obtain ⟨⟨n1, n2⟩, h1, h2⟩ := hok
    simp only [st1] at h
    obtain ⟨a, b', r, rfl, hq⟩ := bi2_inv h
    cases hq
    obtain ⟨vb, hr⟩ := List.forall_mem_cons.mp hVs
    obtain ⟨va, hr⟩ := List.forall_mem_cons.mp hr
    exact ⟨⟨hVL, ok_cons (Vok_i.mpr (in32_to _)) hr, hM⟩, hro, rfl, n1⟩
  | ior =>
    simp only [okE, okN, Bool.and_eq_true, decide_eq_true_eq] at hok
    obtain ⟨⟨n1, n2⟩, h1, h2⟩ := hok
    simp only [st1] at h
    obtain ⟨a, b', r, rfl, hq⟩ := bi2_inv h
    cases hq
    obtain ⟨vb, hr⟩ := List.forall_mem_cons.mp hVs
    obtain ⟨va, hr⟩ := List.forall_mem_cons.mp hr
    exact ⟨⟨hVL, ok_cons (Vok_i.mpr (in32_to _)) hr, hM⟩, hro, rfl, n1⟩
  | ixor =>
    simp only [okE, okN, Bool.and_eq_true, decide_eq_true_eq] at hok
    obtain ⟨⟨n1, n2⟩, h1, h2⟩ := hok
    simp only [st1] at h
    obtain ⟨a, b', r, rfl, hq⟩ := bi2_inv h
    cases hq
    obtain ⟨vb, hr⟩ := List.forall_mem_cons.mp hVs
    obtain ⟨va, hr⟩ := List.forall_mem_cons.mp hr
    exact ⟨⟨hVL, ok_cons (Vok_i.mpr (in32_to _)) hr, hM⟩, hro, rfl, n1⟩
  | ishl =>
    simp only [okE, okN, Bool.and_eq_true, decide_eq_true_eq] at hok
    obtain ⟨⟨n1, n2⟩, h1, h2⟩ := hok
    simp only [st1] at h
    obtain ⟨a, b', r, rfl, hq⟩ := bi2_inv h
    cases hq
    obtain ⟨vb, hr⟩ := List.forall_mem_cons.mp hVs
    obtain ⟨va, hr⟩ := List.forall_mem_cons.mp hr
    exact ⟨⟨hVL, ok_cons (Vok_i.mpr (in32_to _)) hr, hM⟩, hro, rfl, n1⟩
  | ishr =>
    simp only [okE, okN, Bool.and_eq_true, decide_eq_true_eq] at hok
    obtain ⟨⟨n1, n2⟩, h1, h2⟩ := hok
    simp only [st1] at h
    obtain ⟨a, b', r, rfl, hq⟩ := bi2_inv h
    cases hq
    obtain ⟨vb, hr⟩ := List.forall_mem_cons.mp hVs
    obtain ⟨va, hr⟩ := List.forall_mem_cons.mp hr
    exact ⟨⟨hVL, ok_cons (Vok_i.mpr (in32_to _)) hr, hM⟩, hro, rfl, n1⟩
  | iushr =>
    simp only [okE, okN, Bool.and_eq_true, decide_eq_true_eq] at hok
    obtain ⟨⟨n1, n2⟩, h1, h2⟩ := hok
    simp only [st1] at h
    obtain ⟨a, b', r, rfl, hq⟩ := bi2_inv h
    cases hq
    obtain ⟨vb, hr⟩ := List.forall_mem_cons.mp hVs
    obtain ⟨va, hr⟩ := List.forall_mem_cons.mp hr
    exact ⟨⟨hVL, ok_cons (Vok_i.mpr (in32_to _)) hr, hM⟩, hro, rfl, n1⟩
  | idiv =>
    simp only [okE, okN, Bool.and_eq_true, decide_eq_true_eq] at hok
    obtain ⟨⟨n1, n2⟩, h1, h2⟩ := hok
    simp only [st1] at h
    obtain ⟨a, b', r, rfl, hne, hq⟩ := bd2_inv h
    cases hq
    obtain ⟨vb, hr⟩ := List.forall_mem_cons.mp hVs
    obtain ⟨va, hr⟩ := List.forall_mem_cons.mp hr
    exact ⟨⟨hVL, ok_cons (Vok_i.mpr (in32_to _)) hr, hM⟩, hro, rfl, n1⟩
  | irem =>
    simp only [okE, okN, Bool.and_eq_true, decide_eq_true_eq] at hok
    obtain ⟨⟨n1, n2⟩, h1, h2⟩ := hok
    simp only [st1] at h
    obtain ⟨a, b', r, rfl, hne, hq⟩ := bd2_inv h
    cases hq
    obtain ⟨vb, hr⟩ := List.forall_mem_cons.mp hVs
    obtain ⟨va, hr⟩ := List.forall_mem_cons.mp hr
    exact ⟨⟨hVL, ok_cons (Vok_i.mpr (in32_to _)) hr, hM⟩, hro, rfl, n1⟩
  | ladd =>
    simp only [okE, okN, Bool.and_eq_true, decide_eq_true_eq] at hok
    obtain ⟨⟨n1, n2⟩, h1, h2⟩ := hok
    simp only [st1] at h
    obtain ⟨a, b', r, rfl, hq⟩ := bl2_inv h
    cases hq
    obtain ⟨vb, hr⟩ := List.forall_mem_cons.mp hVs
    obtain ⟨va, hr⟩ := List.forall_mem_cons.mp hr
    exact ⟨⟨hVL, ok_cons (Vok_l.mpr (in64_w _)) hr, hM⟩, hro, rfl, n1⟩
  | lsub =>
    simp only [okE, okN, Bool.and_eq_true, decide_eq_true_eq] at hok
    obtain ⟨⟨n1, n2⟩, h1, h2⟩ := hok
    simp only [st1] at h
    obtain ⟨a, b', r, rfl, hq⟩ := bl2_inv h
    cases hq
    obtain ⟨vb, hr⟩ := List.forall_mem_cons.mp hVs
    obtain ⟨va, hr⟩ := List.forall_mem_cons.mp hr
    exact ⟨⟨hVL, ok_cons (Vok_l.mpr (in64_w _)) hr, hM⟩, hro, rfl, n1⟩
  | lmul =>
    simp only [okE, okN, Bool.and_eq_true, decide_eq_true_eq] at hok
    obtain ⟨⟨n1, n2⟩, h1, h2⟩ := hok
    simp only [st1] at h
    obtain ⟨a, b', r, rfl, hq⟩ := bl2_inv h
    cases hq
    obtain ⟨vb, hr⟩ := List.forall_mem_cons.mp hVs
    obtain ⟨va, hr⟩ := List.forall_mem_cons.mp hr
    exact ⟨⟨hVL, ok_cons (Vok_l.mpr (in64_w _)) hr, hM⟩, hro, rfl, n1⟩
  | land =>
    simp only [okE, okN, Bool.and_eq_true, decide_eq_true_eq] at hok
    obtain ⟨⟨n1, n2⟩, h1, h2⟩ := hok
    simp only [st1] at h
    obtain ⟨a, b', r, rfl, hq⟩ := bl2_inv h
    cases hq
    obtain ⟨vb, hr⟩ := List.forall_mem_cons.mp hVs
    obtain ⟨va, hr⟩ := List.forall_mem_cons.mp hr
    exact ⟨⟨hVL, ok_cons (Vok_l.mpr (in64_to _)) hr, hM⟩, hro, rfl, n1⟩
  | lor =>
    simp only [okE, okN, Bool.and_eq_true, decide_eq_true_eq] at hok
    obtain ⟨⟨n1, n2⟩, h1, h2⟩ := hok
    simp only [st1] at h
    obtain ⟨a, b', r, rfl, hq⟩ := bl2_inv h
    cases hq
    obtain ⟨vb, hr⟩ := List.forall_mem_cons.mp hVs
    obtain ⟨va, hr⟩ := List.forall_mem_cons.mp hr
    exact ⟨⟨hVL, ok_cons (Vok_l.mpr (in64_to _)) hr, hM⟩, hro, rfl, n1⟩
  | lxor =>
    simp only [okE, okN, Bool.and_eq_true, decide_eq_true_eq] at hok
    obtain ⟨⟨n1, n2⟩, h1, h2⟩ := hok
    simp only [st1] at h
    obtain ⟨a, b', r, rfl, hq⟩ := bl2_inv h
    cases hq
    obtain ⟨vb, hr⟩ := List.forall_mem_cons.mp hVs
    obtain ⟨va, hr⟩ := List.forall_mem_cons.mp hr
    exact ⟨⟨hVL, ok_cons (Vok_l.mpr (in64_to _)) hr, hM⟩, hro, rfl, n1⟩
  | lshl =>
    simp only [okE, okN, Bool.and_eq_true, decide_eq_true_eq] at hok
    obtain ⟨⟨n1, n2⟩, h1, h2⟩ := hok
    simp only [st1] at h
    obtain ⟨a, b', r, rfl, hq⟩ := bs2_inv h
    cases hq
    obtain ⟨vb, hr⟩ := List.forall_mem_cons.mp hVs
    obtain ⟨va, hr⟩ := List.forall_mem_cons.mp hr
    exact ⟨⟨hVL, ok_cons (Vok_l.mpr (in64_to _)) hr, hM⟩, hro, rfl, n1⟩
  | lshr =>
    simp only [okE, okN, Bool.and_eq_true, decide_eq_true_eq] at hok
    obtain ⟨⟨n1, n2⟩, h1, h2⟩ := hok
    simp only [st1] at h
    obtain ⟨a, b', r, rfl, hq⟩ := bs2_inv h
    cases hq
    obtain ⟨vb, hr⟩ := List.forall_mem_cons.mp hVs
    obtain ⟨va, hr⟩ := List.forall_mem_cons.mp hr
    exact ⟨⟨hVL, ok_cons (Vok_l.mpr (in64_to _)) hr, hM⟩, hro, rfl, n1⟩
  | lushr =>
    simp only [okE, okN, Bool.and_eq_true, decide_eq_true_eq] at hok
    obtain ⟨⟨n1, n2⟩, h1, h2⟩ := hok
    simp only [st1] at h
    obtain ⟨a, b', r, rfl, hq⟩ := bs2_inv h
    cases hq
    obtain ⟨vb, hr⟩ := List.forall_mem_cons.mp hVs
    obtain ⟨va, hr⟩ := List.forall_mem_cons.mp hr
    exact ⟨⟨hVL, ok_cons (Vok_l.mpr (in64_to _)) hr, hM⟩, hro, rfl, n1⟩
  | ldiv =>
    simp only [okE, okN, Bool.and_eq_true, decide_eq_true_eq] at hok
    obtain ⟨⟨n1, n2⟩, h1, h2⟩ := hok
    simp only [st1] at h
    obtain ⟨a, b', r, rfl, hne, hq⟩ := bq2_inv h
    cases hq
    obtain ⟨vb, hr⟩ := List.forall_mem_cons.mp hVs
    obtain ⟨va, hr⟩ := List.forall_mem_cons.mp hr
    exact ⟨⟨hVL, ok_cons (Vok_l.mpr (in64_to _)) hr, hM⟩, hro, rfl, n1⟩
  | lrem =>
    simp only [okE, okN, Bool.and_eq_true, decide_eq_true_eq] at hok
    obtain ⟨⟨n1, n2⟩, h1, h2⟩ := hok
    simp only [st1] at h
    obtain ⟨a, b', r, rfl, hne, hq⟩ := bq2_inv h
    cases hq
    obtain ⟨vb, hr⟩ := List.forall_mem_cons.mp hVs
    obtain ⟨va, hr⟩ := List.forall_mem_cons.mp hr
    exact ⟨⟨hVL, ok_cons (Vok_l.mpr (in64_to _)) hr, hM⟩, hro, rfl, n1⟩
  | ineg =>
    simp only [okE, okN, Bool.and_eq_true, decide_eq_true_eq] at hok
    obtain ⟨⟨n1, n2⟩, h1, h2⟩ := hok
    simp only [st1] at h
    split at h
    · rename_i a r
      simp only [Option.some.injEq, Prod.mk.injEq] at h
      obtain ⟨rfl, rfl, rfl, rfl⟩ := h
      obtain ⟨va, hr⟩ := List.forall_mem_cons.mp hVs
      exact ⟨⟨hVL, ok_cons (Vok_i.mpr (in32_w _)) hr, hM⟩, hro, rfl, n1⟩
    · cases h
  | lneg =>
    simp only [okE, okN, Bool.and_eq_true, decide_eq_true_eq] at hok
    obtain ⟨⟨n1, n2⟩, h1, h2⟩ := hok
    simp only [st1] at h
    split at h
    · rename_i a r
      simp only [Option.some.injEq, Prod.mk.injEq] at h
      obtain ⟨rfl, rfl, rfl, rfl⟩ := h
      obtain ⟨va, hr⟩ := List.forall_mem_cons.mp hVs
      exact ⟨⟨hVL, ok_cons (Vok_l.mpr (in64_w _)) hr, hM⟩, hro, rfl, n1⟩
    · cases h
  | i2l =>
    simp only [okE, okN, Bool.and_eq_true, decide_eq_true_eq] at hok
    obtain ⟨⟨n1, n2⟩, h1, h2⟩ := hok
    simp only [st1] at h
    split at h
    · rename_i a r
      simp only [Option.some.injEq, Prod.mk.injEq] at h
      obtain ⟨rfl, rfl, rfl, rfl⟩ := h
      obtain ⟨va, hr⟩ := List.forall_mem_cons.mp hVs
      exact ⟨⟨hVL, ok_cons (Vok_l.mpr (in64_32 (Vok_i.mp va))) hr, hM⟩, hro, rfl, n1⟩
    · cases h
  | l2i =>
    simp only [okE, okN, Bool.and_eq_true, decide_eq_true_eq] at hok
    obtain ⟨⟨n1, n2⟩, h1, h2⟩ := hok
    simp only [st1] at h
    split at h
    · rename_i a r
      simp only [Option.some.injEq, Prod.mk.injEq] at h
      obtain ⟨rfl, rfl, rfl, rfl⟩ := h
      obtain ⟨va, hr⟩ := List.forall_mem_cons.mp hVs
      exact ⟨⟨hVL, ok_cons (Vok_i.mpr (in32_w _)) hr, hM⟩, hro, rfl, n1⟩
    · cases h
  | i2c =>
    simp only [okE, okN, Bool.and_eq_true, decide_eq_true_eq] at hok
    obtain ⟨⟨n1, n2⟩, h1, h2⟩ := hok
    simp only [st1] at h
    split at h
    · rename_i a r
      simp only [Option.some.injEq, Prod.mk.injEq] at h
      obtain ⟨rfl, rfl, rfl, rfl⟩ := h
      obtain ⟨va, hr⟩ := List.forall_mem_cons.mp hVs
      exact ⟨⟨hVL, ok_cons (Vok_i.mpr (in32_to _)) hr, hM⟩, hro, rfl, n1⟩
    · cases h
  | lcmp =>
    simp only [okE, okN, Bool.and_eq_true, decide_eq_true_eq] at hok
    obtain ⟨⟨n1, n2⟩, h1, h2⟩ := hok
    simp only [st1] at h
    split at h
    · rename_i b' a r
      simp only [Option.some.injEq, Prod.mk.injEq] at h
      obtain ⟨rfl, rfl, rfl, rfl⟩ := h
      obtain ⟨va, hr⟩ := List.forall_mem_cons.mp hVs
      obtain ⟨va2, hr⟩ := List.forall_mem_cons.mp hr
      exact ⟨⟨hVL, ok_cons (Vok_i.mpr (by unfold lcm in32; split <;> (try split) <;> omega)) hr, hM⟩, hro, rfl, n1⟩
    · cases h
  | dup =>
    simp only [okE, okN, Bool.and_eq_true, decide_eq_true_eq] at hok
    obtain ⟨⟨n1, n2⟩, h1, h2⟩ := hok
    simp only [st1] at h
    split at h
    · rename_i t a r
      split at h
      · cases h
      · rename_i ht
        simp only [Option.some.injEq, Prod.mk.injEq] at h
        obtain ⟨rfl, rfl, rfl, rfl⟩ := h
        obtain ⟨va, hr⟩ := List.forall_mem_cons.mp hVs
        exact ⟨⟨hVL, ok_cons va (ok_cons va hr), hM⟩, hro, rfl, n1⟩
    · cases h
  | dup2 =>
    simp only [okE, okN, Bool.and_eq_true, decide_eq_true_eq] at hok
    obtain ⟨⟨n1, n2⟩, h1, h2⟩ := hok
    simp only [st1] at h
    split at h
    · rename_i t a u b' r
      split at h
      · cases h
      · rename_i ht
        simp only [Option.some.injEq, Prod.mk.injEq] at h
        obtain ⟨rfl, rfl, rfl, rfl⟩ := h
        obtain ⟨va, hr⟩ := List.forall_mem_cons.mp hVs
        obtain ⟨vb, hr⟩ := List.forall_mem_cons.mp hr
        exact ⟨⟨hVL, ok_cons va (ok_cons vb (ok_cons va (ok_cons vb hr))), hM⟩, hro, rfl, n1⟩
    · cases h
  | pop =>
    simp only [okE, okN, Bool.and_eq_true, decide_eq_true_eq] at hok
    obtain ⟨⟨n1, n2⟩, h1, h2⟩ := hok
    simp only [st1] at h
    split at h
    · rename_i t a r
      split at h
      · cases h
      · rename_i ht
        simp only [Option.some.injEq, Prod.mk.injEq] at h
        obtain ⟨rfl, rfl, rfl, rfl⟩ := h
        obtain ⟨va, hr⟩ := List.forall_mem_cons.mp hVs
        exact ⟨⟨hVL, hr, hM⟩, hro, rfl, n1⟩
    · cases h
  | goto t =>
    simp only [okE, okT, Bool.and_eq_true, decide_eq_true_eq] at hok
    obtain ⟨⟨t1, t2, t3⟩, h1, h2⟩ := hok
    simp only [st1, Option.some.injEq, Prod.mk.injEq] at h
    obtain ⟨rfl, rfl, rfl, rfl⟩ := h
    exact ⟨⟨hVL, hVs, hM⟩, hro, rfl, t2⟩
  | if_icmp cd t =>
    simp only [okE, okN, okT, Bool.and_eq_true, decide_eq_true_eq] at hok
    obtain ⟨⟨n1, n2⟩, ⟨t1, t2, t3⟩, h1, h2⟩ := hok
    simp only [st1] at h
    split at h
    · rename_i b' a r
      simp only [Option.some.injEq, Prod.mk.injEq] at h
      obtain ⟨rfl, rfl, rfl, rfl⟩ := h
      obtain ⟨vb, hr⟩ := List.forall_mem_cons.mp hVs
      obtain ⟨va, hr⟩ := List.forall_mem_cons.mp hr
      by_cases hc : cmpB cd a b' = true
      · rw [if_pos hc]
        exact ⟨⟨hVL, hr, hM⟩, hro, rfl, t2⟩
      · rw [if_neg hc]
        exact ⟨⟨hVL, hr, hM⟩, hro, rfl, n1⟩
    · cases h
  | ifCond cd t =>
    simp only [okE, okN, okT, Bool.and_eq_true, decide_eq_true_eq] at hok
    obtain ⟨⟨n1, n2⟩, ⟨t1, t2, t3⟩, h1, h2⟩ := hok
    simp only [st1] at h
    split at h
    · rename_i a r
      simp only [Option.some.injEq, Prod.mk.injEq] at h
      obtain ⟨rfl, rfl, rfl, rfl⟩ := h
      obtain ⟨va, hr⟩ := List.forall_mem_cons.mp hVs
      by_cases hc : cmpB cd a 0 = true
      · rw [if_pos hc]
        exact ⟨⟨hVL, hr, hM⟩, hro, rfl, t2⟩
      · rw [if_neg hc]
        exact ⟨⟨hVL, hr, hM⟩, hro, rfl, n1⟩
    · cases h
  | tableswitch d lo hi ts =>
    simp only [okE, Bool.and_eq_true, decide_eq_true_eq, List.all_eq_true, List.mem_range] at hok
    obtain ⟨hd0, ⟨h1, h2⟩, hall⟩ := hok
    simp only [st1] at h
    split at h
    · rename_i x r
      simp only [Option.some.injEq, Prod.mk.injEq] at h
      obtain ⟨rfl, rfl, rfl, rfl⟩ := h
      obtain ⟨va, hr⟩ := List.forall_mem_cons.mp hVs
      rw [tsw_ok]
      by_cases hin : x < lo ∨ lo + ts.toList.length ≤ x
      · rw [if_pos hin]
        simp only [okT, decide_eq_true_eq] at hd0
        exact ⟨⟨hVL, hr, hM⟩, hro, rfl, hd0.2.1⟩
      · rw [if_neg hin]
        have hj : (x - lo).toNat < ts.toList.length := by omega
        have h9 := hall _ hj
        simp only [okT, decide_eq_true_eq] at h9
        exact ⟨⟨hVL, hr, hM⟩, hro, rfl, h9.2.1⟩
    · cases h
  | lookupswitch d ps =>
    simp only [okE, Bool.and_eq_true, decide_eq_true_eq] at hok
    obtain ⟨hd0, ⟨h1, h2, h3⟩, hall⟩ := hok
    simp only [st1] at h
    split at h
    · rename_i x r
      simp only [Option.some.injEq, Prod.mk.injEq] at h
      obtain ⟨rfl, rfl, rfl, rfl⟩ := h
      obtain ⟨va, hr⟩ := List.forall_mem_cons.mp hVs
      have h9 := lsw_ok (B := B) (b := b) _ _ x hd0 _ _ h3 hall
      simp only [okT, decide_eq_true_eq] at h9
      exact ⟨⟨hVL, hr, hM⟩, hro, rfl, h9.2.1⟩
    · cases h
  | multianewarray ci k =>
    simp only [okE, okN, Bool.and_eq_true, Bool.or_eq_true, decide_eq_true_eq] at hok
    obtain ⟨⟨n1, n2⟩, ⟨h1, h2, hc⟩, hf⟩ := hok
    simp only [st1] at h
    obtain ⟨o, r, v, rfl, hk, hv, hq⟩ := gtf_inv h
    cases hq
    obtain ⟨vo, hr⟩ := List.forall_mem_cons.mp hVs
    have ho : (o, ci + 10) ∈ UNI := Vok_ob vo (by omega)
    have hM1 := hM _ ho k
    simp only [sOk, Nat.add_sub_cancel] at hM1
    have hvv : Vok v ∧ True := by
      rcases hv with ⟨hf0, rfl⟩ | ⟨hf1, rfl⟩ | ⟨hn0, hn1, rfl⟩
      · have hn1 : ¬ FT ci k = 1 := by omega
        rw [if_neg (by have : ¬ aty (ci + 10) = 1 := (fun z => arr_kind z (by omega) (by omega)); omega)] at hM1
        exact ⟨hM1, trivial⟩
      · rw [if_pos (Or.inl ⟨by omega, hf1⟩)] at hM1
        exact ⟨hM1, trivial⟩
      · have hft := cl_ft ci hc k hk
        have h10 : 10 ≤ FT ci k := by omega
        have hu := UNI_fld _ ho (by simp only; omega) k (by simpa using hk) (by simpa using h10)
        simp only [Nat.add_sub_cancel] at hu
        exact ⟨Vok_o hu, trivial⟩
    exact ⟨⟨hVL, ok_cons hvv.1 hr, hM⟩, hro, rfl, n1⟩
  | invokeinterface ci k =>
    simp only [okE, okN, Bool.and_eq_true, Bool.or_eq_true, decide_eq_true_eq] at hok
    obtain ⟨⟨n1, n2⟩, ⟨h1, h2, hc⟩, hf⟩ := hok
    simp only [st1] at h
    obtain ⟨o, r, tv, v, rfl, hk, hv, hq⟩ := ptf_inv h
    cases hq
    obtain ⟨vv, hr⟩ := List.forall_mem_cons.mp hVs
    obtain ⟨vo, hr⟩ := List.forall_mem_cons.mp hr
    have ho : (o, ci + 10) ∈ UNI := Vok_ob vo (by omega)
    have na : ¬ aty (ci + 10) = 1 := fun z => arr_kind z (by omega) (by omega)
    have s1 : sOk (ci + 10) k v := by
      simp only [sOk, Nat.add_sub_cancel]
      rcases hv with ⟨hf0, rfl⟩ | ⟨hf1, rfl⟩ | ⟨hf2, rfl, hb⟩
      · rw [if_neg (by omega)]
        exact vv
      · rw [if_pos (Or.inl ⟨by omega, hf1⟩)]
        exact vv
      · rw [if_neg (by omega)]
        exact vv
    exact ⟨⟨hVL, hr, Mok_up hM ho s1⟩, roU ho, rfl, n1⟩
  | iaload =>
    simp only [okE, okN, Bool.and_eq_true, decide_eq_true_eq] at hok
    obtain ⟨⟨n1, n2⟩, h1, h2⟩ := hok
    simp only [st1] at h
    unfold sld at h
    split at h
    · rename_i i t o r
      obtain ⟨vi, hr1⟩ := List.forall_mem_cons.mp hVs
      obtain ⟨vo, hr⟩ := List.forall_mem_cons.mp hr1
      clear hr1
      split at h
      · rename_i ht
        subst ht
        split at h
        · rename_i hi
          simp only [Option.some.injEq, Prod.mk.injEq] at h
          obtain ⟨rfl, rfl, rfl, rfl⟩ := h
          obtain ⟨Ls, xs, hl, -, hx⟩ := S.1
          have e1 := hx i.toNat (by rw [hl] at hi; omega)
          rw [Int.toNat_of_nonneg hi.1] at e1
          exact ⟨⟨hVL, ok_cons (Vok_i.mpr (by rw [e1]; exact in32_to _)) hr, hM⟩, hro, rfl, n1⟩
        · cases h
      · split at h
        · rename_i ht0 ht
          subst ht
          split at h
          · rename_i hi
            simp only [Option.some.injEq, Prod.mk.injEq] at h
            obtain ⟨rfl, rfl, rfl, rfl⟩ := h
            obtain ⟨xs, hx⟩ := S.2
            have e1 := hx i.toNat (by omega)
            rw [Int.toNat_of_nonneg hi.1] at e1
            exact ⟨⟨hVL, ok_cons (Vok_i.mpr (by rw [e1]; exact in32_to _)) hr, hM⟩, hro, rfl, n1⟩
          · cases h
        · obtain ⟨i', t', o', r', he, ha, h0, hi1, hq⟩ := ald_inv h
          cases he
          cases hq
          have ho : (o, t) ∈ UNI := Vok_ob vo (by have := arr_kind ha (by omega); omega)
          exact ⟨⟨hVL, ok_cons (Vok_i.mpr (sOk_arr (Or.inl ha) (mok_rd hM ho h0))) hr, hM⟩, hro, rfl, n1⟩
    · cases h
  | laload =>
    simp only [okE, okN, Bool.and_eq_true, decide_eq_true_eq] at hok
    obtain ⟨⟨n1, n2⟩, h1, h2⟩ := hok
    simp only [st1] at h
    obtain ⟨i, t, o, r, rfl, ha, h0, hi1, hq⟩ := ald_inv h
    cases hq
    obtain ⟨vi, hr⟩ := List.forall_mem_cons.mp hVs
    obtain ⟨vo, hr⟩ := List.forall_mem_cons.mp hr
    have ho : (o, t) ∈ UNI := Vok_ob vo (by have := arr_kind ha (by omega); omega)
    exact ⟨⟨hVL, ok_cons (Vok_l.mpr (sOk_larr ha (mok_rd hM ho h0))) hr, hM⟩, hro, rfl, n1⟩
  | baload =>
    simp only [okE, okN, Bool.and_eq_true, decide_eq_true_eq] at hok
    obtain ⟨⟨n1, n2⟩, h1, h2⟩ := hok
    simp only [st1] at h
    obtain ⟨i, t, o, r, rfl, ha, h0, hi1, hq⟩ := ald_inv h
    cases hq
    obtain ⟨vi, hr⟩ := List.forall_mem_cons.mp hVs
    obtain ⟨vo, hr⟩ := List.forall_mem_cons.mp hr
    have ho : (o, t) ∈ UNI := Vok_ob vo (by have := arr_kind ha (by omega); omega)
    exact ⟨⟨hVL, ok_cons (Vok_i.mpr (sOk_arr (Or.inr ha) (mok_rd hM ho h0))) hr, hM⟩, hro, rfl, n1⟩
  | aaload =>
    simp only [okE, okN, Bool.and_eq_true, decide_eq_true_eq] at hok
    obtain ⟨⟨n1, n2⟩, h1, h2⟩ := hok
    simp only [st1] at h
    obtain ⟨i, t, o, r, tr, rfl, ha, h0, hi1, hq⟩ := rld_inv h
    cases hq
    obtain ⟨vi, hr⟩ := List.forall_mem_cons.mp hVs
    obtain ⟨vo, hr⟩ := List.forall_mem_cons.mp hr
    have ho : (o, t) ∈ UNI := Vok_ob vo (by
      rcases ha with ⟨ha, -⟩ | ⟨ha, -⟩
      · have := arr_kind ha (by omega); omega
      · have := arr_kind ha (by omega); omega)
    have hm : (PA (aty t) o i, tr) ∈ UNI := by
      have e0 : ((i.toNat : Nat) : Int) = i := Int.toNat_of_nonneg h0
      have hlt : i.toNat < (t - 100) / 8 := by
        rw [aln_nat] at hi1
        omega
      rcases ha with ⟨ha, rfl⟩ | ⟨ha, rfl⟩
      · have := UNI_arr3 _ ho ha i.toNat hlt
        simp only at this
        rw [e0] at this
        rw [ha]
        exact this
      · have := UNI_arr4 _ ho ha i.toNat hlt
        simp only at this
        rw [e0] at this
        rw [ha]
        exact this
    exact ⟨⟨hVL, ok_cons (Vok_o hm) hr, hM⟩, hro, rfl, n1⟩
  | iastore =>
    simp only [okE, okN, Bool.and_eq_true, decide_eq_true_eq] at hok
    obtain ⟨⟨n1, n2⟩, h1, h2⟩ := hok
    simp only [st1] at h
    obtain ⟨v, i, t, o, r, rfl, ha, h0, hi1, hq⟩ := ast_inv h
    cases hq
    obtain ⟨vv, hr⟩ := List.forall_mem_cons.mp hVs
    obtain ⟨vi, hr⟩ := List.forall_mem_cons.mp hr
    obtain ⟨vo, hr⟩ := List.forall_mem_cons.mp hr
    have ho : (o, t) ∈ UNI := Vok_ob vo (by have := arr_kind ha (by omega); omega)
    exact ⟨⟨hVL, hr, by rw [up_nat h0]; exact Mok_up hM ho (sOk_arr' (Or.inl ha) (Vok_i.mp vv))⟩, roU ho, rfl, n1⟩
  | lastore =>
    simp only [okE, okN, Bool.and_eq_true, decide_eq_true_eq] at hok
    obtain ⟨⟨n1, n2⟩, h1, h2⟩ := hok
    simp only [st1] at h
    obtain ⟨v, i, t, o, r, rfl, ha, h0, hi1, hq⟩ := ast_inv h
    cases hq
    obtain ⟨vv, hr⟩ := List.forall_mem_cons.mp hVs
    obtain ⟨vi, hr⟩ := List.forall_mem_cons.mp hr
    obtain ⟨vo, hr⟩ := List.forall_mem_cons.mp hr
    have ho : (o, t) ∈ UNI := Vok_ob vo (by have := arr_kind ha (by omega); omega)
    exact ⟨⟨hVL, hr, by rw [up_nat h0]; exact Mok_up hM ho (sOk_larr' ha (Vok_l.mp vv))⟩, roU ho, rfl, n1⟩
  | bastore =>
    simp only [okE, okN, Bool.and_eq_true, decide_eq_true_eq] at hok
    obtain ⟨⟨n1, n2⟩, h1, h2⟩ := hok
    simp only [st1] at h
    obtain ⟨v, i, t, o, r, rfl, ha, hb, h0, hi1, hq⟩ := bst_inv h
    cases hq
    obtain ⟨vv, hr⟩ := List.forall_mem_cons.mp hVs
    obtain ⟨vi, hr⟩ := List.forall_mem_cons.mp hr
    obtain ⟨vo, hr⟩ := List.forall_mem_cons.mp hr
    have ho : (o, t) ∈ UNI := Vok_ob vo (by have := arr_kind ha (by omega); omega)
    exact ⟨⟨hVL, hr, by rw [up_nat h0]; exact Mok_up hM ho (sOk_arr' (Or.inr ha) (Vok_i.mp vv))⟩, roU ho, rfl, n1⟩
  | arraylength =>
    simp only [okE, okN, Bool.and_eq_true, decide_eq_true_eq] at hok
    obtain ⟨⟨n1, n2⟩, h1, h2⟩ := hok
    simp only [st1] at h
    split at h
    · rename_i t o r
      obtain ⟨vo, hr⟩ := List.forall_mem_cons.mp hVs
      split at h
      · rename_i ht
        subst ht
        simp only [Option.some.injEq, Prod.mk.injEq] at h
        obtain ⟨rfl, rfl, rfl, rfl⟩ := h
        obtain ⟨Ls, xs, hl, hlt, hx⟩ := S.1
        exact ⟨⟨hVL, ok_cons (Vok_i.mpr (by rw [hl]; unfold in32; omega)) hr, hM⟩, hro, rfl, n1⟩
      · split at h
        · cases h
        · rename_i ht0 ha
          simp only [Option.some.injEq, Prod.mk.injEq] at h
          obtain ⟨rfl, rfl, rfl, rfl⟩ := h
          have ho : (o, t) ∈ UNI := Vok_ob vo (by
            have : ¬ t < 100 := fun z => ha (by unfold aty; rw [if_pos z])
            omega)
          exact ⟨⟨hVL, ok_cons (Vok_i.mpr (in32_aln ho ha)) hr, hM⟩, hro, rfl, n1⟩
    · cases h
  | getstatic x0 =>
    simp only [okE, okN, Bool.and_eq_true, decide_eq_true_eq] at hok
    obtain ⟨⟨n1, n2⟩, h1, h2, h3⟩ := hok
    simp only [st1, Option.some.injEq, Prod.mk.injEq] at h
    obtain ⟨rfl, rfl, rfl, rfl⟩ := h
    exact ⟨⟨hVL, ok_cons trivial hVs, hM⟩, hro, rfl, n1⟩
  | ret n =>
    simp only [okE, okN, Bool.and_eq_true, decide_eq_true_eq] at hok
    obtain ⟨⟨n1, n2⟩, h1, h2, h3⟩ := hok
    simp only [st1] at h
    rcases mth_inv h with ⟨a, b', r, rfl, rfl, hc, hq⟩ | ⟨a, b', r, rfl, rfl, hc, hq⟩ | ⟨a, r, rfl, rfl, hc, hq⟩ | ⟨a, b', r, rfl, rfl, hc, hq⟩ | ⟨a, b', r, rfl, rfl, hc, hq⟩
    · cases hq
      obtain ⟨vb, hr⟩ := List.forall_mem_cons.mp hVs
      obtain ⟨va, hr⟩ := List.forall_mem_cons.mp hr
      exact ⟨⟨hVL, ok_cons (Vok_i.mpr (by have := Vok_i.mp va; have := Vok_i.mp vb; unfold in32 at *; omega)) hr, hM⟩, hro, rfl, n1⟩
    · cases hq
      obtain ⟨vb, hr⟩ := List.forall_mem_cons.mp hVs
      obtain ⟨va, hr⟩ := List.forall_mem_cons.mp hr
      exact ⟨⟨hVL, ok_cons (Vok_i.mpr (by have := Vok_i.mp va; have := Vok_i.mp vb; unfold in32 at *; omega)) hr, hM⟩, hro, rfl, n1⟩
    · cases hq
      obtain ⟨va, hr⟩ := List.forall_mem_cons.mp hVs
      exact ⟨⟨hVL, ok_cons (Vok_i.mpr (by split; exact Vok_i.mp va; exact in32_w _)) hr, hM⟩, hro, rfl, n1⟩
    · cases hq
      obtain ⟨vb, hr⟩ := List.forall_mem_cons.mp hVs
      obtain ⟨va, hr⟩ := List.forall_mem_cons.mp hr
      exact ⟨⟨hVL, ok_cons (Vok_l.mpr (by have := Vok_l.mp va; have := Vok_l.mp vb; unfold in64 at *; omega)) hr, hM⟩, hro, rfl, n1⟩
    · cases hq
      obtain ⟨vb, hr⟩ := List.forall_mem_cons.mp hVs
      obtain ⟨va, hr⟩ := List.forall_mem_cons.mp hr
      exact ⟨⟨hVL, ok_cons (Vok_l.mpr (by have := Vok_l.mp va; have := Vok_l.mp vb; unfold in64 at *; omega)) hr, hM⟩, hro, rfl, n1⟩
  | ldc t =>
    simp only [okE, okN, Bool.and_eq_true, Bool.or_eq_true, decide_eq_true_eq] at hok
    obtain ⟨⟨n1, n2⟩, h3, ho⟩ := hok
    simp only [st1] at h
    split at h
    · simp only [Option.some.injEq, Prod.mk.injEq] at h
      obtain ⟨rfl, rfl, rfl, rfl⟩ := h
      rcases ho with ⟨rfl, h1, h2⟩ | ⟨rfl, h1, h2⟩
      · exact ⟨⟨hVL, ok_cons trivial hVs, hM⟩, hro, rfl, n1⟩
      · exact ⟨⟨hVL, ok_cons trivial hVs, hM⟩, hro, rfl, n1⟩
    · cases h
  | invokedynamic n =>
    simp only [okE, okN, Bool.and_eq_true, Bool.or_eq_true, decide_eq_true_eq] at hok
    obtain ⟨⟨n1, n2⟩, ho⟩ := hok
    rcases ho with ⟨rfl, h1, h2, h3⟩ | ⟨h3, hn, h1, h2, h4⟩
    · simp only [st1, if_true] at h
      obtain ⟨n, dp, td, d, sp, ts, a, rfl, ha, ha2, i0, i1, i2, i3, i4, hq⟩ := acp_inv h
      cases hq
      obtain ⟨vn, hr⟩ := List.forall_mem_cons.mp hVs
      obtain ⟨vdp, hr⟩ := List.forall_mem_cons.mp hr
      obtain ⟨vd, hr⟩ := List.forall_mem_cons.mp hr
      obtain ⟨vsp, hr⟩ := List.forall_mem_cons.mp hr
      obtain ⟨vs, hr⟩ := List.forall_mem_cons.mp hr
      have ho : (a, ts) ∈ UNI := Vok_ob vs (by have := arr_kind ha (by omega); omega)
      have ho2 : (d, td) ∈ UNI := Vok_ob vd (by have := arr_kind ha2 (by omega); omega)
      have hlt := UNI_lt _ ho2
      simp only at hlt
      refine ⟨⟨hVL, hr, Mok_cpy hM ho ho2 ha ha2 i1⟩, ⟨fun z => ?_, fun z => ?_⟩, rfl, n1⟩
      · unfold cpy; rw [if_neg (by omega)]
      · unfold cpy; rw [if_neg (by omega)]
    · have hs := h3
      have hinv : StOk L' st' m' ∧ L' = L ∧ m' = m ∧ pc' = pc + 1 := by
        have h' := h
        simp only [st1, if_neg hn] at h'
        have in32w : ∀ x : Int, in32 (wchar x) := by
          intro x
          unfold wchar
          have hall : ∀ v ∈ WORDSL, in32 v := by unfold in32; decide +kernel
          rw [List.getD_eq_getElem?_getD]
          cases hx : WORDSL[x.toNat]? with
          | none => exact in32_lit0
          | some v => exact hall v (List.mem_of_getElem? hx)
        have in32x : ∀ (l : List Int) (c k : Int), 0 ≤ k → k + l.length ≤ 1000 → in32 (idxOf l c k) := by
          intro l
          induction l with
          | nil => intro c k _ _; unfold idxOf in32; omega
          | cons x r ih =>
            intro c k h0 h1
            unfold idxOf
            simp only [List.length_cons] at h1
            split
            · unfold in32; omega
            · exact ih c (k + 1) (by omega) (by omega)
        split at h'
        · split at h'
          · simp only [Option.some.injEq, Prod.mk.injEq] at h'
            obtain ⟨rfl, rfl, rfl, rfl⟩ := h'
            exact ⟨⟨hVL, ok_cons (Vok_i.mpr (by unfold in32; omega)) (fun _ z => by cases z), hM⟩, rfl, rfl, rfl⟩
          · simp only [Option.some.injEq, Prod.mk.injEq] at h'
            obtain ⟨rfl, rfl, rfl, rfl⟩ := h'
            obtain ⟨_, hr⟩ := List.forall_mem_cons.mp hVs
            exact ⟨⟨hVL, ok_cons (Vok_i.mpr (by unfold in32; omega)) hr, hM⟩, rfl, rfl, rfl⟩
          · cases h'
        · split at h'
          · split at h'
            · split at h'
              · simp only [Option.some.injEq, Prod.mk.injEq] at h'
                obtain ⟨rfl, rfl, rfl, rfl⟩ := h'
                exact ⟨⟨hVL, ok_cons (Vok_i.mpr (in32w _)) (fun _ z => by cases z), hM⟩, rfl, rfl, rfl⟩
              · cases h'
            · cases h'
          · split at h'
            · split at h'
              · simp only [Option.some.injEq, Prod.mk.injEq] at h'
                obtain ⟨rfl, rfl, rfl, rfl⟩ := h'
                exact ⟨⟨hVL, ok_cons (Vok_i.mpr (in32x _ _ _ (by omega) (by decide))) (fun _ z => by cases z), hM⟩, rfl, rfl, rfl⟩
              · cases h'
            · cases h'
      obtain ⟨hV', rfl, rfl, rfl⟩ := hinv
      exact ⟨hV', hro, rfl, n1⟩
  | _ => simp [st1] at h
