/-! THE LAW'S START: two objects, then the loop -/
theorem wl_0 : Cond.classLink R_law 7 RX8 ∈ WT := WT_in (mem_places (ws := [Cond.classLink R_law 7 RX8]) [131] (by decide +kernel) _ (List.mem_singleton.mpr rfl)) rfl
theorem wl_1 : Cond.instantiable RX8 9 ∈ WT := WT_in (mem_places (ws := [Cond.instantiable RX8 9]) [132] (by decide +kernel) _ (List.mem_singleton.mpr rfl)) rfl
theorem wl_2 : Cond.initialized RX8 ∈ WT := WT_in (mem_places (ws := [Cond.initialized RX8]) [112] (by decide +kernel) _ (List.mem_singleton.mpr rfl)) rfl
theorem wl_3 : Cond.instanceMethod (yIn RX8) ∈ WT := WT_in (mem_places (ws := [Cond.instanceMethod (yIn RX8)]) [134] (by decide +kernel) _ (List.mem_singleton.mpr rfl)) rfl
theorem wl_4 : Cond.code (yIn RX8) prog_1_method_1_code 2 none ∈ WT := WT_in (mem_places (ws := [Cond.code (yIn RX8) prog_1_method_1_code 2 none]) [135] (by decide +kernel) _ (List.mem_singleton.mpr rfl)) rfl
theorem wl_5 : Cond.methodLink R_law 9 (yIn RX8) ∈ WT := WT_in (mem_places (ws := [Cond.methodLink R_law 9 (yIn RX8)]) [133] (by decide +kernel) _ (List.mem_singleton.mpr rfl)) rfl
theorem wl_6 : Cond.classLink R_law 10 RX9 ∈ WT := WT_in (mem_places (ws := [Cond.classLink R_law 10 RX9]) [1267] (by decide +kernel) _ (List.mem_singleton.mpr rfl)) rfl
theorem wl_7 : Cond.instantiable RX9 34 ∈ WT := WT_in (mem_places (ws := [Cond.instantiable RX9 34]) [1268] (by decide +kernel) _ (List.mem_singleton.mpr rfl)) rfl
theorem wl_8 : Cond.initialized RX9 ∈ WT := WT_in (mem_places (ws := [Cond.initialized RX9]) [120] (by decide +kernel) _ (List.mem_singleton.mpr rfl)) rfl
theorem wl_9 : Cond.instanceMethod (yIn RX9) ∈ WT := WT_in (mem_places (ws := [Cond.instanceMethod (yIn RX9)]) [1270] (by decide +kernel) _ (List.mem_singleton.mpr rfl)) rfl
theorem wl_10 : Cond.code (yIn RX9) prog_11_method_1_code 1 none ∈ WT := WT_in (mem_places (ws := [Cond.code (yIn RX9) prog_11_method_1_code 1 none]) [1271] (by decide +kernel) _ (List.mem_singleton.mpr rfl)) rfl
theorem wl_11 : Cond.methodLink R_law 12 (yIn RX9) ∈ WT := WT_in (mem_places (ws := [Cond.methodLink R_law 12 (yIn RX9)]) [1269] (by decide +kernel) _ (List.mem_singleton.mpr rfl)) rfl
theorem dl_0 : decode code 0 = .ok (.new 7, 3) := by decide +kernel
theorem dl_3 : decode code 3 = .ok (.dup, 1) := by decide +kernel
theorem dl_4 : decode code 4 = .ok (.invokespecial 9, 3) := by decide +kernel
theorem dl_7 : decode code 7 = .ok (.astore_n 1, 1) := by decide +kernel
theorem dl_8 : decode code 8 = .ok (.new 10, 3) := by decide +kernel
theorem dl_11 : decode code 11 = .ok (.dup, 1) := by decide +kernel
theorem dl_12 : decode code 12 = .ok (.invokespecial 12, 3) := by decide +kernel
theorem dl_15 : decode code 15 = .ok (.astore_n 2, 1) := by decide +kernel
theorem Sc_mem {ad : Int → Nat} {A : Nat → Prop} {s : State} {H : Heap} {m m' : Mm} (h : Sc NWL ad A s H m) (e0 : ∀ z, m' 500 z = m 500 z) (e1 : ∀ z, m' 501 z = m 501 z) : Sc NWL ad A s H m' := by
  unfold Sc at h ⊢
  simp only [e0, e1]
  exact h
set_option maxHeartbeats 4000000 in
set_option maxRecDepth 100000 in
theorem law_start (hSTR : STR) {p : Program} {e : Env} {s : State} {m : MethodId} {below : List Frame} {meth : Method} {c : Code} (l : Launch) {b L : Nat} {xs : Nat → Int32} (hL : L ≤ 3072) (C0 : lw_At p s m meth c b L xs) : W p l e room_1 s m #[Value.ref b] below meth c s.heap [] 0 0 (lw_Z below #[Value.ref b] s) (entryFrame m ([Value.ref b] : List Value).toArray 4) := by
  obtain ⟨hx, hb, hr, hml, hown, htl, hX, hbl, hlocks, hgv⟩ := C0
  have hts : ∀ w ∈ WT, w.before #[.ref b] s = true := fun w hw => htl w (List.mem_filter.mp hw).1
  obtain ⟨D, G, hK⟩ := KC_start htl
  obtain ⟨a1, a2, a3, hSc⟩ := Sc_start hL htl hX hbl hgv
  obtain ⟨xf, hxf⟩ : ∃ f : Int → Int, f = (fun j => if j = -1 then (L : Int) else (xs j.toNat).toInt) := ⟨_, rfl⟩
  obtain ⟨yf, hyf⟩ : ∃ f : Int → Int, f = (fun j => (yT j.toNat).toInt) := ⟨_, rfl⟩
  rw [← hxf, ← hyf] at hSc
  have hy : yf 0 = 1 ∧ yf 1 = 0 ∧ yf 2 = 3 ∧ yf 3 = 2 := by
    rw [hyf]
    decide
  have hl := lv_entry ([.ref b]) (n := 4) (Nat.le_of_ble_eq_true rfl)
  rw [lg_entry_eq]
  generalize (lg_sl ([.ref b]) ++ List.replicate (4 - (lg_sl ([.ref b])).length) Slot.unset).toArray = ls at hl ⊢
  have hl : lv_has ls 4 [(0, .ref b)] := hl
  obtain ⟨A, hAe⟩ : ∃ A : Nat → Prop, A = fun q => s.heap.size ≤ q := ⟨_, rfl⟩
  have hA : ∀ q : Nat, s.heap.size ≤ q → A q := fun q h => by rw [hAe]; exact h
  have hS : va_S A s.heap s.heap [] := va_S.rf
  have hP : va_P D vwCl [] s.heap := fun k q h => by simp at h
  have hD : va_D A [] := ⟨fun i j p q h => by simp at h, fun k q h => by simp at h⟩
  refine ct_new (own := R_law) (G := G) (ci := 7) (T := TX8) (ty := tyX8) hx hb hml hown hts hK hP hD hS hA hl.1 wtX8 tyX8_ok rfl fs_TH wl_0 wl_1 wl_2 wl_3 wl_4 (Or.inl wl_5) (by decide) (ct_TH l) ⟨Nat.le_of_ble_eq_true rfl, Nat.le_of_ble_eq_true rfl⟩ ⟨Nat.le_of_ble_eq_true rfl, Nat.le_of_ble_eq_true rfl⟩ (Nat.le_of_ble_eq_true rfl) dl_0 dl_3 dl_4 (fun h1 wn H locs hE hP hD hS => ?_)
  refine lv_astore_n (lv' := [(1, .ref h1), (0, .ref b)]) hx hb dl_7 rfl hl (by decide) rfl (fun ls hl => ?_)
  obtain ⟨ad0, had0, hadX, hcv⟩ := cv_TH (D := D) (xs := xf) (ys := yf) (fun i => if i = 500 then b else if i = 501 then a1 else if i = 502 then a2 else a3) hE
  have x0 : ad0 500 = b := by rw [hadX _ (by omega)]; rfl
  have hSc0 := hSc ad0 x0 (by rw [hadX _ (by omega)]; rfl) (by rw [hadX _ (by omega)]; rfl) (by rw [hadX _ (by omega)]; rfl)
  rw [← hAe] at hSc0
  refine va_new (ci := 8) (fs := df_Model) (C := RX9) (T := TX9) (N := 34) hx hb hts wtX9 tyX9 tyX9_ok hown (hts _ wl_6) (hts _ wl_7) (hts _ wl_8) hK.1 hP hD hS hA rfl fs_Model (Nat.le_of_ble_eq_true rfl) (Nat.le_of_ble_eq_true rfl) dl_8 (fun q H hP hD hS => ?_)
  refine lv_dup hx hb dl_11 rfl ?_
  have hpm : (([] ++ wn) ++ [(q, .inr (8, df_Model))] : va_W).Perm ((q, .inr (8, df_Model)) :: wn) := List.perm_append_singleton _ _
  have hP := pm_P hP hpm
  have hD := pm_D hD hpm
  have hFc : ∀ x, va_A ((q, .inr (8, df_Model)) :: wn) H.size x → A x := fun x hq => by
    rcases hq with ⟨k, e9, hk⟩ | hq
    · exact hD.2 k _ hk
    · exact hA x (Nat.le_trans hS.1 hq)
  have hScH : Sc NWL ad0 (va_A ((q, .inr (8, df_Model)) :: wn) H.size) s H (mZ xf yf) := Sc_narrow (Sc_kept hSc0 hS.1 hS.2.1) hFc
  have hps : PreS s H (PMo D G q H.size ad0 wn xf yf) [.ref q] := ⟨fun a U g mk q0 => by obtain ⟨q1, q2, q3, q4, q5, q6⟩ := q0; exact ⟨q1, q2, q3, KC.same (u := U) (U := U.calling g mk a) rfl q4, q5, Sc_same (u := U) (U := U.calling g mk a) rfl q6⟩, fun U hU hW => ⟨rfl, by rw [hU], by rw [hU]; exact hP, hK.warm hW, ⟨hD.1, fun _ _ _ => trivial⟩, by rw [hU]; exact Sc_warm hW hScH⟩⟩
  have hcat : 2 * (F0 m 12 ls (.ref q :: .ref q :: [])).monitorRoom + (([.ref q] : List Value).map fun v => v.category).sum ≤ 8 := by
    show 0 + (([.ref q] : List Value).map fun v => v.category).sum ≤ 8
    exact Nat.le_of_ble_eq_true rfl
  have hrun : va_Run p l e room_1 s m #[.ref b] below meth c H locs (0 + 1 + rm_TH.cells + 1) (0 + 9 + rm_TH.slots + 34) rm_Mo.cells rm_Mo.slots (F0 m 12 ls (.ref q :: .ref q :: [])) [.ref q] (QMo D G q ad0 xf yf (va_A ((q, .inr (8, df_Model)) :: wn) H.size) (Value.ref q :: ([] : List Value)).toArray) (va_A ((q, .inr (8, df_Model)) :: wn) H.size) :=
    va_runI (As := []) (rest := [.ref q]) ⟨hx, hb, hml, hown, hts⟩ (ct_Model hSTR l D G q H.size ad0 wn xf yf hcv) (cwI 0 hts (goodWT wl_10) rfl rfl rfl (hts _ wl_8) (hts _ wl_11) (hts _ wl_9) rfl ⟨by decide, by decide, yIn_d RX9⟩ ⟨Nat.le_of_ble_eq_true rfl, Nat.le_of_ble_eq_true rfl⟩) hps rfl rfl hl.1 rfl hcat dl_12 ⟨Nat.le_of_ble_eq_true rfl, Nat.le_of_ble_eq_true rfl⟩
  refine va_callv hrun hS (fun q1 _ h => hFc q1 h) hFc (fun u t H1 locs1 ht hvm hw hB hz1 hk1 hS => ?_)
  obtain ⟨ad, tu, ado, adh, htu, hmk, hP1, hD1⟩ := hB
  rw [ht] at hP1
  refine lv_astore_n (lv' := [(2, .ref q), (1, .ref h1), (0, .ref b)]) hx hb dl_15 rfl hl (by decide) rfl (fun ls hl => ?_)
  have hD2 : va_D A (WS ad G (mI xf yf tu)) := ⟨hD1.1, fun k z hk => hFc _ (hD1.2 k z hk)⟩
  have i5 : ∀ z, mI xf yf tu 500 z = mZ xf yf 500 z := fun z => by unfold mI; rw [if_neg (by omega), if_neg (by omega)]
  have i6 : ∀ z, mI xf yf tu 501 z = mZ xf yf 501 z := fun z => by unfold mI; rw [if_neg (by omega), if_neg (by omega)]
  have hSc2 : Sc NWL ad A s s.heap (mI xf yf tu) := Sc_mem (Sc_ad hSc0 (fun i hi => ado i (Or.inr hi))) i5 i6
  have hRf := R_first (xs := xf) (ys := yf) (tu := tu) hy htu
  have h500 : mI xf yf tu 500 (-1) = (L : Int) := by
    rw [i5]
    unfold mZ
    rw [if_pos rfl, hxf]
    rfl
  obtain ⟨m', hev⟩ := lw_loop (Sc_P hSc2) ⟨by rw [h500]; omega, by rw [h500]; omega⟩ 700 0 (mI xf yf tu) ⟨hRf, hmk, fun _ => rfl, fun _ => rfl⟩ (by omega) (by rw [h500]; omega) (by omega)
  obtain ⟨n, hrun2⟩ := b_Lw_0 (d := 120) hev
  have K : CX NWL p room_1 s m #[.ref b] c (OWNN 10) code ad G D A 4 := ⟨hx, hb, hml, hown, hts, hK.1, hA, Nat.le_of_ble_eq_true rfl, Nat.le_of_ble_eq_true rfl, hSc2.2.2.2.2.2.2.2.2⟩
  have hsd := sound tabs_ok hSTR n 121 K_Lw 2 0 [(50, 500), (17, 0), (18, 400), (9, 0)] [] (mI xf yf tu) (some (0, 1)) m' p l e room_1 s m #[.ref b] below meth c (lw_Z below #[.ref b] s) ad G D A 4 10 code B_Lw 600000 7302249 hrun2 K hSc2 tab_Lw ⟨fun v hv => by
      simp only [List.mem_cons, List.not_mem_nil, or_false] at hv
      rcases hv with rfl | rfl | rfl | rfl
      · trivial
      · exact V_TH
      · exact V_Mo
      · exact Vok_9, fun _ z => absurd z (by simp), hmk⟩ (Nat.le_of_ble_eq_true rfl) (Nat.le_of_ble_eq_true rfl) (Nat.le_refl _) (Nat.le_refl _)
  have hgo := hsd.2 (fun j i L' st' hj hret => ?_)
  · refine W.widen (k := 600000) (n := 7302249) (Nat.le_of_ble_eq_true rfl) (Nat.le_of_ble_eq_true rfl) ?_
    exact hgo H1 _ ls hP1 hD2 hS ⟨rfl, hl.1, hl.2.1, fun i v hv h9 => by
      match i, hv with
      | 0, hv =>
        cases hv
        rw [show cv ad (50, 500) = .ref (ad 500) from rfl, ado 500 (Or.inr (by omega)), x0]
        exact lv_at hl 2 rfl
      | 1, hv =>
        cases hv
        rw [cv_o ad 0 (by decide +kernel), ado 0 (Or.inl (by omega)), had0]
        exact lv_at hl 1 rfl
      | 2, hv =>
        cases hv
        rw [cv_o ad 400 (by decide +kernel), adh]
        exact lv_at hl 0 rfl
      | 3, hv =>
        cases hv
        exact absurd rfl h9⟩
  · intro H locs ls hP hD hS hL
    have hjl : j < B_Lw.length := by rw [← tab_Lw.1]; exact (List.getElem?_eq_some_iff.mp hj).1
    obtain ⟨bb, hbb⟩ : ∃ bb, B_Lw[j]? = some bb := ⟨B_Lw[j], List.getElem?_eq_getElem hjl⟩
    obtain ⟨hdec, hok⟩ := tab_Lw.2 j i bb hj hbb
    rw [bpOf_at hbb]
    have hi : i = .ireturn ∧ st' = [(0, 1)] := by
      cases i with
      | ireturn =>
        simp only [ret1] at hret
        split at hret
        · rename_i v9
          rw [if_neg (by decide), if_pos trivial] at hret
          split at hret
          · cases hret
            exact ⟨rfl, rfl⟩
          · cases hret
        · cases hret
      | lreturn =>
        simp only [ret1] at hret
        split at hret
        · rw [if_neg (by decide)] at hret
          cases hret
        · cases hret
      | areturn =>
        simp only [ret1] at hret
        split at hret
        · split at hret
          · rename_i hc
            omega
          · cases hret
        · cases hret
      | return_ =>
        simp only [ret1] at hret
        split at hret
        · simp at hret
        · cases hret
      | _ => simp [ret1] at hret
    obtain ⟨rfl, rfl⟩ := hi
    simp only [okE, decide_eq_true_eq] at hok
    have hd := dec_of hdec hok.1 hok.2
    exact va_forget (fun z hz => by have hq := hS.2.2 z hz; rw [hAe] at hq; exact hq) (lw_ret hx hb hr hlocks hd)
