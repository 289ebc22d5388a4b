/-! STR: the three rows of the two constant texts -/
theorem wch_ok : ∀ k : Nat, k < 125 → (((((BYTS.getD 0 []).getD k 0) &&& 255).toUInt32 % 65536).toInt32 = Int32.ofInt (wchar (k : Int)) ∧ narrow .char (.int (Int32.ofInt (wchar (k : Int)))) = .int (Int32.ofInt (wchar (k : Int)))) := by decide +kernel
theorem ix_ok : ∀ k : Nat, k < 256 → (if Int32.ofInt (k : Int) < 0 ∨ 255 < Int32.ofInt (k : Int) then -1 else ixr (fun j => (BYTS.getD 1 []).getD j 0) (Int32.ofInt (k : Int)).toInt8.toInt32 (LENS.getD 1 0) 0) = Int32.ofInt (idxOf SIGNSL (k : Int) 0) := by decide +kernel
theorem ix_no {c : Int} (h : 255 < c) : idxOf SIGNSL c 0 = -1 := by
  simp only [SIGNSL, idxOf]
  rw [if_neg (by omega), if_neg (by omega), if_neg (by omega), if_neg (by omega), if_neg (by omega), if_neg (by omega), if_neg (by omega), if_neg (by omega), if_neg (by omega), if_neg (by omega), if_neg (by omega)]
theorem ix_all {c : Int} (h0 : 0 ≤ c) (h1 : c < 65536) : (if Int32.ofInt c < 0 ∨ 255 < Int32.ofInt c then -1 else ixr (fun j => (BYTS.getD 1 []).getD j 0) (Int32.ofInt c).toInt8.toInt32 (LENS.getD 1 0) 0) = Int32.ofInt (idxOf SIGNSL c 0) := by
  by_cases h : c < 256
  · obtain ⟨k, rfl⟩ := Int.eq_ofNat_of_zero_le h0
    exact ix_ok k (by omega)
  · have h2 : (255 : Int32) < Int32.ofInt c := by
      rw [Int32.lt_iff_toInt_lt, i32_of (by unfold in32; omega)]
      show (255 : Int) < c
      omega
    rw [if_pos (Or.inr h2), ix_no (by omega)]
    rfl
theorem st_len {st st' : List Vv} {pc pc' : Nat} {L L' : List Vv} {m m' : Mm} (h : st1 (.invokedynamic 1) pc L st m = some (pc', L', st', m')) : L' = L ∧ m' = m ∧ ∃ (z : Int) (r : List Vv), st = (52, z) :: r ∧ st' = (0, 125) :: r ∧ catS r ≤ 8 := by
  simp only [st1] at h
  rw [if_neg (show ¬ (1 : Nat) = 0 by decide), if_pos trivial] at h
  split at h
  · cases h
    exact ⟨rfl, rfl, _, [], rfl, rfl, Nat.zero_le _⟩
  · cases h
    exact ⟨rfl, rfl, _, [(0, _)], rfl, rfl, Nat.le_of_ble_eq_true rfl⟩
  · cases h
theorem st_chr {st st' : List Vv} {pc pc' : Nat} {L L' : List Vv} {m m' : Mm} (h : st1 (.invokedynamic 2) pc L st m = some (pc', L', st', m')) : L' = L ∧ m' = m ∧ ∃ (z i : Int), 0 ≤ i ∧ i < 125 ∧ st = [(0, i), (52, z)] ∧ st' = [(0, wchar i)] := by
  simp only [st1] at h
  rw [if_neg (show ¬ (2 : Nat) = 0 by decide), if_neg (show ¬ (2 : Nat) = 1 by decide), if_pos trivial] at h
  split at h
  · split at h
    · rename_i hc
      cases h
      exact ⟨rfl, rfl, _, _, hc.1, hc.2, rfl, rfl⟩
    · cases h
  · cases h
theorem st_idx {st st' : List Vv} {pc pc' : Nat} {L L' : List Vv} {m m' : Mm} (h : st1 (.invokedynamic 3) pc L st m = some (pc', L', st', m')) : L' = L ∧ m' = m ∧ ∃ (z i : Int), 0 ≤ i ∧ i < 65536 ∧ st = [(0, i), (53, z)] ∧ st' = [(0, idxOf SIGNSL i 0)] := by
  simp only [st1] at h
  rw [if_neg (show ¬ (3 : Nat) = 0 by decide), if_neg (show ¬ (3 : Nat) = 1 by decide), if_neg (show ¬ (3 : Nat) = 2 by decide)] at h
  split at h
  · split at h
    · rename_i hc
      cases h
      exact ⟨rfl, rfl, _, _, hc.1, hc.2, rfl, rfl⟩
    · cases h
  · cases h
theorem STR_holds : STR := by
  intro p l e R s mid args below meth c Q ad G D A nL cells slots cc m K hSc hF hLc hce hsl
  intro bp idx n pc pc' L L' st st' m1 m1' hd hidx h1 kk
  have hcas : (idx = 168 ∧ n = 1) ∨ (idx = 172 ∧ n = 2) ∨ (idx = 184 ∧ n = 3) := by
    simp only [STT, List.mem_cons, Prod.mk.injEq, List.not_mem_nil, or_false] at hidx
    exact hidx
  have hts : ∀ w ∈ WT, w.before args s = true := K.2.2.2.2.1
  have hE9 := hSc.2.2.2.1
  obtain ⟨adV, hE⟩ := hE9
  have keep : ∀ {H H1 : Heap} {ws : va_W}, va_P D vwCl ws H → (∀ q : Nat, q < H.size → ¬ False → H1[q]? = H[q]?) → va_P D vwCl ws H1 := fun hP hk i q h => (hP i q h).kept (hk q.1 (hP i q h).lt (fun z => z))
  rcases hcas with ⟨rfl, rfl⟩ | ⟨rfl, rfl⟩ | ⟨rfl, rfl⟩
  · obtain ⟨rfl, rfl, z, r, rfl, rfl, hr8⟩ := st_len h1
    intro H locs ls hP hD hS hL
    show W p l e R s mid args below meth c H locs cells slots Q (F0 mid bp ls (.ref (ad 502) :: r.map (cv ad)))
    have hSc1 : Sc NWL ad A s H m := Sc_kept hSc hS.1 hS.2.1
    have hps : PreV s H "java/lang/String" (ad 502) (PJ ad A m [.ref (ad 502)]) [] := ⟨fun a U g mk q0 => ⟨q0.1, Sc_same (u := U) (U := U.calling g mk a) rfl q0.2⟩, vk_recv hE (show 0 < 2 by decide) hS, fun U hU hW => ⟨rfl, by show Sc NWL ad A U U.heap m; rw [hU]; exact Sc_warm hW hSc1⟩⟩
    have hrun : va_Run p l e R s mid args below meth c H locs cells slots 0 0 (F0 mid bp ls (Value.ref (ad 502) :: r.map (cv ad))) (r.map (cv ad)) (QJ (Int32.ofNat (LENS.getD 0 0)) (Value.ref (ad 502) :: ([] : List Value)).toArray) (fun _ => False) :=
      va_runV (C := "java/lang/String") (As := []) ⟨K.1, K.2.1, K.2.2.1, K.2.2.2.1, hts⟩ (jt_length l ad A m 0 (by decide)) ⟨callB_of 0 hts (goodWT wj_43) rfl rfl rfl (hts _ wj_7) (hts _ wj_40) ⟨by decide, by decide, by decide +kernel⟩ ⟨by show 2 + 1 ≤ _; omega, by show 8 + (1 + 11) + 80 ≤ _; omega⟩, hts _ wj_41, hts _ wj_42⟩ hps rfl rfl hL.2.1 rfl (by show 2 * 0 + _ ≤ 8; rw [catS_map]; omega) hd ⟨hce, hsl⟩
    refine va_calli hrun hS (fun _ _ h => h.elim) (fun _ h => h.elim) (fun r9 u t H1 locs1 ht hvm hw hB hz1 hk1 hS1 => ?_)
    obtain rfl : r9 = Int32.ofNat (LENS.getD 0 0) := hw
    exact kk H1 locs1 ls (keep hP hk1) hD hS1 hL
  · obtain ⟨rfl, rfl, z, i, hi0, hi1, rfl, rfl⟩ := st_chr h1
    intro H locs ls hP hD hS hL
    show W p l e R s mid args below meth c H locs cells slots Q (F0 mid bp ls [.int (Int32.ofInt i), .ref (ad 502)])
    have hSc1 : Sc NWL ad A s H m := Sc_kept hSc hS.1 hS.2.1
    have hi32 : in32 i := by unfold in32; omega
    have hps : PreV s H "java/lang/String" (ad 502) (PJ ad A m [.ref (ad 502), .int (Int32.ofInt i)]) [.int (Int32.ofInt i)] := ⟨fun a U g mk q0 => ⟨q0.1, Sc_same (u := U) (U := U.calling g mk a) rfl q0.2⟩, vk_recv hE (show 0 < 2 by decide) hS, fun U hU hW => ⟨rfl, by show Sc NWL ad A U U.heap m; rw [hU]; exact Sc_warm hW hSc1⟩⟩
    have hx0 : ¬ Int32.ofInt i < 0 := by
      rw [Int32.lt_iff_toInt_lt, i32_of hi32]
      show ¬ i < 0
      omega
    have hx1 : Int32.ofInt i < Int32.ofNat (LENS.getD 0 0) := by
      rw [Int32.lt_iff_toInt_lt, i32_of hi32]
      show i < 125
      exact hi1
    have hch : ((((BYTS.getD 0 []).getD (Int32.ofInt i).toNatClampNeg 0) &&& 255).toUInt32 % 65536).toInt32 = Int32.ofInt (wchar i) ∧ narrow .char (.int (Int32.ofInt (wchar i))) = .int (Int32.ofInt (wchar i)) := by
      rw [clamp_o hi32]
      have h9 := wch_ok i.toNat (by omega)
      rw [Int.toNat_of_nonneg hi0] at h9
      exact h9
    have hrun : va_Run p l e R s mid args below meth c H locs cells slots 0 0 (F0 mid bp ls [.int (Int32.ofInt i), .ref (ad 502)]) [] (QJ (Int32.ofInt (wchar i)) (Value.ref (ad 502) :: ([.int (Int32.ofInt i)] : List Value)).toArray) (fun _ => False) :=
      va_runV (C := "java/lang/String") (As := [.int (Int32.ofInt i)]) ⟨K.1, K.2.1, K.2.2.1, K.2.2.2.1, hts⟩ (jt_char l ad A m 0 (by decide) (Int32.ofInt i) (Int32.ofInt (wchar i)) hx0 hx1 (vp_in_o hi32 hi0 hi1) hch.1 hch.2) ⟨callB_of 1 hts (goodWT wj_47) rfl rfl rfl (hts _ wj_7) (hts _ wj_44) ⟨by decide, by decide, by decide +kernel⟩ ⟨by show 4 + 1 ≤ _; omega, by show 8 + (2 + 11) + 160 ≤ _; omega⟩, hts _ wj_45, hts _ wj_46⟩ hps rfl rfl hL.2.1 rfl (Nat.le_of_ble_eq_true rfl) hd ⟨hce, hsl⟩
    refine va_calli hrun hS (fun _ _ h => h.elim) (fun _ h => h.elim) (fun r9 u t H1 locs1 ht hvm hw hB hz1 hk1 hS1 => ?_)
    obtain rfl : r9 = Int32.ofInt (wchar i) := hw
    exact kk H1 locs1 ls (keep hP hk1) hD hS1 hL
  · obtain ⟨rfl, rfl, z, i, hi0, hi1, rfl, rfl⟩ := st_idx h1
    intro H locs ls hP hD hS hL
    show W p l e R s mid args below meth c H locs cells slots Q (F0 mid bp ls [.int (Int32.ofInt i), .ref (ad 503)])
    have hSc1 : Sc NWL ad A s H m := Sc_kept hSc hS.1 hS.2.1
    have hps : PreV s H "java/lang/String" (ad 503) (PJ ad A m [.ref (ad 503), .int (Int32.ofInt i)]) [.int (Int32.ofInt i)] := ⟨fun a U g mk q0 => ⟨q0.1, Sc_same (u := U) (U := U.calling g mk a) rfl q0.2⟩, vk_recv (i := 1) hE (show 1 < 2 by decide) hS, fun U hU hW => ⟨rfl, by show Sc NWL ad A U U.heap m; rw [hU]; exact Sc_warm hW hSc1⟩⟩
    have hrun : va_Run p l e R s mid args below meth c H locs cells slots 0 0 (F0 mid bp ls [.int (Int32.ofInt i), .ref (ad 503)]) [] (QJ (Int32.ofInt (idxOf SIGNSL i 0)) (Value.ref (ad 503) :: ([.int (Int32.ofInt i)] : List Value)).toArray) (fun _ => False) :=
      va_runV (C := "java/lang/String") (As := [.int (Int32.ofInt i)]) ⟨K.1, K.2.1, K.2.2.1, K.2.2.2.1, hts⟩ (jt_ix1 l ad A m 1 (by decide) (Int32.ofInt i) (Int32.ofInt (idxOf SIGNSL i 0)) (ix_all hi0 hi1)) ⟨callB_of 1 hts (goodWT wj_51) rfl rfl rfl (hts _ wj_7) (hts _ wj_48) ⟨by decide, by decide, by decide +kernel⟩ ⟨by show 4 + 1 ≤ _; omega, by show 8 + (2 + 11) + 160 ≤ _; omega⟩, hts _ wj_49, hts _ wj_50⟩ hps rfl rfl hL.2.1 rfl (Nat.le_of_ble_eq_true rfl) hd ⟨hce, hsl⟩
    refine va_calli hrun hS (fun _ _ h => h.elim) (fun _ h => h.elim) (fun r9 u t H1 locs1 ht hvm hw hB hz1 hk1 hS1 => ?_)
    obtain rfl : r9 = Int32.ofInt (idxOf SIGNSL i 0) := hw
    exact kk H1 locs1 ls (keep hP hk1) hD hS1 hL

