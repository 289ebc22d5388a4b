/-! ALL PATHS -/
theorem w64_w {a b : Int} : w64 (w64 a + w64 b) = w64 (a + b) := by
  unfold w64
  rw [Int64.ofInt_add, Int64.ofInt_toInt, Int64.ofInt_toInt, ← Int64.ofInt_add]
theorem w64_l {a b : Int} : w64 (w64 a + b) = w64 (a + b) := by
  unfold w64
  rw [Int64.ofInt_add, Int64.ofInt_toInt, ← Int64.ofInt_add]
def wsm (g : Nat → Nat) : Nat → Nat → Nat
  | 0, _ => 0
  | t + 1, w => g w + wsm g t (w + 1)
def pth (H : Int → Bool) (b : Nat) : Nat → Nat → Nat → Nat
  | 0, c, _ => if c = b then 1 else 0
  | f + 1, c, u => if c = b then 1 else wsm (fun w => if opn H (c : Nat) (w : Nat) = true ∧ ¬ u.testBit (bey (c : Nat) (w : Nat)).toNat = true then pth H b f (bey (c : Nat) (w : Nat)).toNat (u ||| 2 ^ (bey (c : Nat) (w : Nat)).toNat) else 0) 4 0
abbrev wyG (H : Int → Bool) (b f c u : Nat) : Nat → Nat := fun w => if opn H (c : Nat) (w : Nat) = true ∧ ¬ u.testBit (bey (c : Nat) (w : Nat)).toNat = true then pth H b f (bey (c : Nat) (w : Nat)).toNat (u ||| 2 ^ (bey (c : Nat) (w : Nat)).toNat) else 0
theorem sumF_con {f g : Nat → Nat} : ∀ k, (∀ i, i < k → f i = g i) → sumF f k = sumF g k := by
  intro k
  induction k with
  | zero => exact fun _ => rfl
  | succ k ih =>
    intro h
    unfold sumF
    rw [ih (fun i hi => h i (by omega)), h k (by omega)]
theorem sumF_add {f g : Nat → Nat} : ∀ k, sumF (fun i => f i + g i) k = sumF f k + sumF g k := by
  intro k
  induction k with
  | zero => rfl
  | succ k ih => unfold sumF; rw [ih]; omega
theorem sumF_z : ∀ k, sumF (fun _ => 0) k = 0 := by
  intro k
  induction k with
  | zero => rfl
  | succ k ih => unfold sumF; rw [ih]
theorem sumF_one {v j : Nat} : ∀ k, j < k → sumF (fun i => if i = j then v else 0) k = v := by
  intro k
  induction k with
  | zero => intro h; omega
  | succ k ih =>
    intro h
    unfold sumF
    by_cases hk : k = j
    · subst hk
      have : sumF (fun i => if i = k then v else 0) k = 0 := by
        rw [sumF_con (g := fun _ => 0) k (fun i hi => if_neg (by omega)), sumF_z]
      rw [this, if_pos rfl, Nat.zero_add]
    · rw [ih (by omega), if_neg hk, Nat.add_zero]
/-- a sum over the cells that are beside, as one over the ways -/
theorem sum_ways {H : Int → Bool} {c L : Nat} {P : Nat → Prop} {G : Nat → Nat} (hc : c < 25) (hL : ∀ e, L.testBit e = true ↔ nbr H c e ∧ P e) (dP : ∀ e, Decidable (P e)) : sumF (fun e => if L.testBit e = true then G e else 0) 25 = wsm (fun w => if opn H (c : Nat) (w : Nat) = true ∧ P (bey (c : Nat) (w : Nat)).toNat then G (bey (c : Nat) (w : Nat)).toNat else 0) 4 0 := by
  have one : ∀ w : Nat, w < 4 → sumF (fun e => if opn H (c : Nat) (w : Nat) = true ∧ bey (c : Nat) (w : Nat) = (e : Nat) ∧ P e then G e else 0) 25 = if opn H (c : Nat) (w : Nat) = true ∧ P (bey (c : Nat) (w : Nat)).toNat then G (bey (c : Nat) (w : Nat)).toNat else 0 := by
    intro w hw
    by_cases ho : opn H (c : Nat) (w : Nat) = true
    · obtain ⟨e, e1, e2, e3⟩ := opn_nbr hc hw ho
      rw [e1, Int.toNat_natCast]
      by_cases hp : P e
      · rw [if_pos ⟨ho, hp⟩, ← sumF_one (v := G e) (j := e) 25 e2]
        refine sumF_con 25 (fun i hi => ?_)
        by_cases hie : i = e
        · subst hie
          rw [if_pos ⟨ho, rfl, hp⟩, if_pos rfl]
        · rw [if_neg (fun z => hie (by have := z.2.1; omega)), if_neg hie]
      · rw [if_neg (fun z => hp z.2)]
        rw [sumF_con (g := fun _ => 0) 25 (fun i hi => if_neg (fun z => hp (by
          have h1 := z.2.1
          have : e = i := by omega
          rw [this]; exact z.2.2))), sumF_z]
    · rw [if_neg (fun z => ho z.1)]
      rw [sumF_con (g := fun _ => 0) 25 (fun i hi => if_neg (fun z => ho z.1)), sumF_z]
  have split4 : sumF (fun e => if L.testBit e = true then G e else 0) 25 = sumF (fun e => (if opn H (c : Nat) ((0 : Nat) : Int) = true ∧ bey (c : Nat) ((0 : Nat) : Int) = (e : Nat) ∧ P e then G e else 0) + ((if opn H (c : Nat) ((1 : Nat) : Int) = true ∧ bey (c : Nat) ((1 : Nat) : Int) = (e : Nat) ∧ P e then G e else 0) + ((if opn H (c : Nat) ((2 : Nat) : Int) = true ∧ bey (c : Nat) ((2 : Nat) : Int) = (e : Nat) ∧ P e then G e else 0) + (if opn H (c : Nat) ((3 : Nat) : Int) = true ∧ bey (c : Nat) ((3 : Nat) : Int) = (e : Nat) ∧ P e then G e else 0)))) 25 := by
    refine sumF_con 25 (fun e he => ?_)
    by_cases hl : L.testBit e = true
    · rw [if_pos hl]
      obtain ⟨h1, h2⟩ := (hL e).mp hl
      obtain ⟨w, w1, w2, w3⟩ := nbr_opn hc h1
      have uniq : ∀ v : Nat, v < 4 → v ≠ w → ¬ (opn H (c : Nat) (v : Nat) = true ∧ bey (c : Nat) (v : Nat) = (e : Nat) ∧ P e) := fun v hv hne z => hne (bey_inj c hc v hv w w1 (by have := z.2.1; omega) (by have := z.2.1; omega))
      have hw4 : w = 0 ∨ w = 1 ∨ w = 2 ∨ w = 3 := by omega
      rcases hw4 with rfl | rfl | rfl | rfl
      · rw [if_pos ⟨w2, w3, h2⟩, if_neg (uniq 1 (by omega) (by omega)), if_neg (uniq 2 (by omega) (by omega)), if_neg (uniq 3 (by omega) (by omega))]
        omega
      · rw [if_neg (uniq 0 (by omega) (by omega)), if_pos ⟨w2, w3, h2⟩, if_neg (uniq 2 (by omega) (by omega)), if_neg (uniq 3 (by omega) (by omega))]
        omega
      · rw [if_neg (uniq 0 (by omega) (by omega)), if_neg (uniq 1 (by omega) (by omega)), if_pos ⟨w2, w3, h2⟩, if_neg (uniq 3 (by omega) (by omega))]
        omega
      · rw [if_neg (uniq 0 (by omega) (by omega)), if_neg (uniq 1 (by omega) (by omega)), if_neg (uniq 2 (by omega) (by omega)), if_pos ⟨w2, w3, h2⟩]
        omega
    · have no : ∀ v : Nat, v < 4 → ¬ (opn H (c : Nat) (v : Nat) = true ∧ bey (c : Nat) (v : Nat) = (e : Nat) ∧ P e) := fun v hv z => hl ((hL e).mpr ⟨(nbr_way hc hv z.2.1).mpr z.1, z.2.2⟩)
      rw [if_neg hl, if_neg (no 0 (by omega)), if_neg (no 1 (by omega)), if_neg (no 2 (by omega)), if_neg (no 3 (by omega))]
  rw [split4, sumF_add, sumF_add, sumF_add, one 0 (by omega), one 1 (by omega), one 2 (by omega), one 3 (by omega)]
  rfl
theorem cntL_sum {p : Nat → Bool} : ∀ k, cntL p k = sumF (fun i => if p i = true then 1 else 0) k := by
  intro k
  induction k with
  | zero => rfl
  | succ k ih => unfold cntL sumF; rw [ih]
theorem wsm_le {g : Nat → Nat} (h : ∀ w, g w ≤ 1) : wsm g 4 0 ≤ 4 := by
  have h0 := h 0
  have h1 := h 1
  have h2 := h 2
  have h3 := h 3
  show g 0 + (g 1 + (g 2 + (g 3 + 0))) ≤ 4
  omega
/-- one cell less -/
theorem sumL_low {G : Nat → Nat} {l : Nat} (hl : l < 2 ^ 25) (h0 : l ≠ 0) : sumF (fun e => if l.testBit e = true then G e else 0) 25 = G (low l) + sumF (fun e => if (ndf l (2 ^ low l)).testBit e = true then G e else 0) 25 := by
  obtain ⟨q1, q2, q3⟩ := low_v hl h0
  rw [← sumF_one (v := G (low l)) (j := low l) 25 q2, ← sumF_add]
  refine sumF_con 25 (fun e he => ?_)
  have hm := ndf_mem (s := l) (t := 2 ^ low l) (i := e)
  rw [pow_mem] at hm
  by_cases hel : e = low l
  · rw [if_pos hel, if_neg (fun z => (hm.mp z).2 hel), hel, if_pos q1]
    omega
  · rw [if_neg hel]
    by_cases hb : l.testBit e = true
    · rw [if_pos hb, if_pos (hm.mpr ⟨hb, hel⟩)]
      omega
    · rw [if_neg hb, if_neg (fun z => hb (hm.mp z).1)]
theorem crd_low {l : Nat} (hl : l < 2 ^ 25) (h0 : l ≠ 0) : crd l = 1 + crd (ndf l (2 ^ low l)) := by
  unfold crd
  rw [cntL_sum, cntL_sum]
  exact sumL_low (G := fun _ => 1) hl h0
theorem crd_z {l : Nat} (hl : l < 2 ^ 25) (h : crd l = 0) : l = 0 := by
  apply Classical.byContradiction
  intro z
  have := crd_low hl z
  omega
theorem c_Mz_pathsOn {m : Mm} {H : Int → Bool} {b : Nat} (hM : MZ m H) (hb : b < 25) : ∀ (f k c u : Nat), k + f = 25 → c < 25 → u < 2 ^ 25 → u.testBit c = true → Cl (f + 1) k_Mz_pathsOn [(14, 13), (0, ((2 ^ c : Nat) : Int)), (0, ((2 ^ b : Nat) : Int)), (0, (ndf AL u : Nat)), (0, (k : Nat))] m (some (1, w64 (pth H b f c u : Nat)), m) := by
  have hpb := (p25 hb).1
  have hinj : ∀ c, c < 25 → (((2 ^ c : Nat) : Int) = ((2 ^ b : Nat) : Int) ↔ c = b) := fun c hc => by
    constructor
    · intro z
      have z' : 2 ^ c = 2 ^ b := by omega
      have : (2 ^ b).testBit c = true := by rw [← z']; exact pow_mem.mpr rfl
      exact pow_mem.mp this
    · intro z; rw [z]
  intro f
  induction f with
  | zero =>
    intro k c u hk hc hu huc
    refine cl_Mz_pathsOn (b_Mz_pathsOn ⟨fun z => ⟨fun z2 => by omega, fun _ => ?_⟩, fun z => ?_⟩)
    · rw [hinj c hc] at z
      unfold pth
      rw [if_neg z]
      rfl
    · rw [Classical.not_not, hinj c hc] at z
      unfold pth
      rw [if_pos z]
      rfl
  | succ f ih =>
    intro k c u hk hc hu huc
    obtain ⟨p1, p2, p3⟩ := p25 hc
    have hAu := ndf_lt (b := u) (show AL < 2 ^ 25 by decide)
    have hgl := grw_lt (H := H) (s := 2 ^ c)
    unfold pth
    refine cl_Mz_pathsOn (b_Mz_pathsOn ⟨fun z => ⟨fun _ => ⟨_, _, c_Mz_grown hM p1, ?_⟩, fun z2 => by omega⟩, fun z => ?_⟩)
    · rw [hinj c hc] at z
      rw [if_neg z, ian_nat (by omega) (by omega)]
      have hL : ∀ e, (grw H (2 ^ c) &&& ndf AL u).testBit e = true ↔ nbr H c e ∧ ¬ u.testBit e = true := by
        intro e
        rw [and_mem, grw_mem, ndf_mem, AL_bit, decide_eq_true_eq]
        constructor
        · rintro ⟨⟨y0, y | ⟨a, y1, y2⟩⟩, y3, y4⟩
          · rw [pow_mem] at y
            rw [y] at y4
            exact absurd huc y4
          · rw [pow_mem] at y1
            rw [← y1]
            exact ⟨y2, y4⟩
        · rintro ⟨y1, y2⟩
          have he := nbr_lt y1 hc
          exact ⟨⟨he, Or.inr ⟨c, pow_mem.mpr rfl, y1⟩⟩, he, y2⟩
      have hLl : grw H (2 ^ c) &&& ndf AL u < 2 ^ 25 := Nat.lt_of_le_of_lt Nat.and_le_left hgl
      have hs := sum_ways (H := H) (c := c) (P := fun e => ¬ u.testBit e = true) (G := fun e => pth H b f e (u ||| 2 ^ e)) hc hL (fun e => inferInstance)
      have hn4 : crd (grw H (2 ^ c) &&& ndf AL u) ≤ 4 := by
        unfold crd
        rw [cntL_sum, sum_ways (H := H) (c := c) (P := fun e => ¬ u.testBit e = true) (G := fun _ => 1) hc hL (fun e => inferInstance)]
        exact wsm_le (fun w => by split <;> omega)
      rw [← hs]
      generalize grw H (2 ^ c) &&& ndf AL u = L at hL hLl hn4
      have lp : ∀ (s i l A : Nat) (v : Vv), i + s = 4 → l < 2 ^ 25 → sub_ l L → crd l ≤ s → Ev (f + 1 + 1) K_Mz_pathsOn 1 20 [(14, 13), (0, ((2 ^ c : Nat) : Int)), (0, ((2 ^ b : Nat) : Int)), (0, (ndf AL u : Nat)), (0, (k : Nat)), (0, (l : Nat)), (1, w64 (A : Nat)), (9, 0), (0, (i : Nat)), v] [] m (some (1, w64 ((A + sumF (fun e => if l.testBit e = true then pth H b f e (u ||| 2 ^ e) else 0) 25 : Nat) : Int)), m) := by
        intro s
        induction s with
        | zero =>
          intro i l A v hi hl hsub hcr
          have h0 := crd_z hl (by omega)
          subst h0
          have e0 : sumF (fun e => if (0 : Nat).testBit e = true then pth H b f e (u ||| 2 ^ e) else 0) 25 = 0 := by
            rw [sumF_con (g := fun _ => 0) 25 (fun i _ => by rw [Nat.zero_testBit]; rfl), sumF_z]
          rw [e0, Nat.add_zero]
          exact b_Mz_pathsOn_20 ⟨fun _ => rfl, fun z => absurd (by omega) z⟩
        | succ s ihs =>
          intro i l A v hi hl hsub hcr
          by_cases h0 : l = 0
          · subst h0
            have e0 : sumF (fun e => if (0 : Nat).testBit e = true then pth H b f e (u ||| 2 ^ e) else 0) 25 = 0 := by
              rw [sumF_con (g := fun _ => 0) 25 (fun i _ => by rw [Nat.zero_testBit]; rfl), sumF_z]
            rw [e0, Nat.add_zero]
            exact b_Mz_pathsOn_20 ⟨fun _ => rfl, fun _ => ⟨fun _ => rfl, fun z => absurd rfl z⟩⟩
          · obtain ⟨l1, l2, l3⟩ := low_v hl h0
            obtain ⟨n1, n2⟩ := (hL _).mp (hsub _ l1)
            have hpl := (p25 l2).1
            have hrec := ih (k + 1) (low l) (u ||| 2 ^ low l) (by omega) l2 (or_lt hu hpl) (or_mem.mpr (Or.inr (pow_mem.mpr rfl)))
            have en : ndf (ndf AL u) (2 ^ low l) = ndf AL (u ||| 2 ^ low l) := by
              refine sub_eq (fun i hi => ?_) (fun i hi => ?_)
              · obtain ⟨y1, y2⟩ := ndf_mem.mp hi
                obtain ⟨y3, y4⟩ := ndf_mem.mp y1
                refine ndf_mem.mpr ⟨y3, fun z => ?_⟩
                rcases or_mem.mp z with z | z
                · exact y4 z
                · exact y2 z
              · obtain ⟨y1, y2⟩ := ndf_mem.mp hi
                exact ndf_mem.mpr ⟨ndf_mem.mpr ⟨y1, fun z => y2 (or_mem.mpr (Or.inl z))⟩, fun z => y2 (or_mem.mpr (Or.inr z))⟩
            rw [sumL_low (G := fun e => pth H b f e (u ||| 2 ^ e)) hl h0]
            refine b_Mz_pathsOn_20 ⟨fun z => by omega, fun _ => ⟨fun z => by omega, fun _ => ?_⟩⟩
            rw [neg_bit hl h0, ian_not (by omega) (by omega), ian_not (by omega) (by omega), en, w32s (by omega)]
            refine ⟨_, _, hrec, ?_⟩
            rw [w64_w, w32s (by omega)]
            have g := ihs (i + 1) (ndf l (2 ^ low l)) (A + pth H b f (low l) (u ||| 2 ^ low l)) (0, ((2 ^ low l : Nat) : Int)) (by omega) (ndf_lt hl) (fun i hi => hsub i (ndf_mem.mp hi).1) (by have := crd_low hl h0; omega)
            rw [← Nat.add_assoc]
            exact g
      have g := lp 4 0 L 0 (9, 0) rfl hLl (fun i hi => hi) hn4
      rw [Nat.zero_add] at g
      exact g
    · rw [Classical.not_not, hinj c hc] at z
      rw [if_pos z]
      rfl
theorem pth_0 {H : Int → Bool} {a b : Nat} (ha : a < 25) (hb : ¬ (rgn H a).testBit b = true) : ∀ f c u, (rgn H a).testBit c = true → pth H b f c u = 0 := by
  intro f
  induction f with
  | zero =>
    intro c u hc
    unfold pth
    rw [if_neg (fun z => hb (by rw [← z]; exact hc))]
  | succ f ih =>
    intro c u hc
    have hc25 := bit_lt (rgn_lt ha) hc
    unfold pth
    rw [if_neg (fun z => hb (by rw [← z]; exact hc))]
    have z : ∀ w : Nat, w < 4 → wyG H b f c u w = 0 := by
      intro w hw
      unfold wyG
      by_cases ho : opn H (c : Nat) (w : Nat) = true
      · obtain ⟨e, e1, e2, e3⟩ := opn_nbr hc25 hw ho
        rw [e1, Int.toNat_natCast, ih e _ (cls_closed (p25 ha).1 (p25 ha).2.1 (p25 ha).2.2 hc e3 (AL_mem e2)), ite_self]
      · rw [if_neg (fun z => ho z.1)]
    show wyG H b f c u 0 + (wyG H b f c u 1 + (wyG H b f c u 2 + (wyG H b f c u 3 + 0))) = 0
    rw [z 0 (by omega), z 1 (by omega), z 2 (by omega), z 3 (by omega)]
theorem c_Mz_pathsTo {d : Nat} {m : Mm} {H : Int → Bool} {a b : Nat} (hM : MZ m H) (ha : a < 25) (hb : b < 25) : Cl (d + 27) k_Mz_pathsTo [(14, 13), (0, (a : Nat)), (0, ((2 ^ b : Nat) : Int))] m (some (1, w64 (pth H b 25 a (2 ^ a) : Nat)), m) := by
  have hr := rgn_lt (H := H) ha
  have hpb := (p25 hb).1
  have hpa := (p25 ha).1
  have hon := (c_Mz_pathsOn (m := m) (b := b) hM hb 25 0 a (2 ^ a) rfl ha hpa (pow_mem.mpr rfl)).up (d' := d + 26) (by omega)
  refine cl_Mz_pathsTo (b_Mz_pathsTo ⟨_, _, c_Mz_regionOf hM ha, ?_⟩)
  rw [ian_nat (by omega) (by omega)]
  have hz : (((rgn H a &&& 2 ^ b : Nat) : Int) = 0) ↔ ¬ (rgn H a).testBit b = true := by
    rw [← and_pow]
    omega
  rw [hz]
  refine ⟨fun z => ?_, fun z => ?_⟩
  · rw [isl1 (by omega)]
    have e1 : ian 33554431 (ixo ((2 ^ a : Nat) : Int) (-1)) = ((ndf AL (2 ^ a) : Nat) : Int) := ian_not (a := 33554431) (by omega) (by omega)
    rw [e1]
    exact ⟨_, _, hon, rfl⟩
  · rw [Classical.not_not] at z
    rw [pth_0 ha z 25 a (2 ^ a) (rgn_self ha)]
    rfl
/-! the model's search -/
theorem crd_or {u e : Nat} (hu : u < 2 ^ 25) (he : e < 25) (hn : ¬ u.testBit e = true) : crd u + 1 ≤ crd (u ||| 2 ^ e) :=
  crd_lt (or_lt hu (p25 he).1) (fun i hi => or_mem.mpr (Or.inl hi)) (fun z => hn (by rw [z]; exact or_mem.mpr (Or.inr (pow_mem.mpr rfl))))
theorem ndf_or {u e : Nat} (hn : ¬ u.testBit e = true) : ndf (u ||| 2 ^ e) (2 ^ e) = u := by
  refine sub_eq (fun i hi => ?_) (fun i hi => ?_)
  · obtain ⟨y1, y2⟩ := ndf_mem.mp hi
    rcases or_mem.mp y1 with z | z
    · exact z
    · exact absurd z y2
  · refine ndf_mem.mpr ⟨or_mem.mpr (Or.inl hi), fun z => ?_⟩
    rw [pow_mem] at z
    rw [z] at hi
    exact hn hi
theorem pa_st {d : Nat} {m M : Mm} {x1 : Int} {b k c w u N : Nat} {r : Option Vv × Mm} (h8 : hv20 (m 401 8)) (h9 : hv20 (m 401 9)) (hF : ∀ a x, a ≠ 412 → a ≠ 413 → M a x = m a x) (hk : k < 25) (hc : c < 25) (hw : w ≤ 4) (hu : u < 2 ^ 25) (h1 : M 412 (k : Nat) = (c : Nat)) (h2 : M 413 (k : Nat) = (w : Int) - 1) (ge : c = b → Ev (d + 3) K_Mo_paths 1 24 [(18, 400), (0, x1), (0, (b : Nat)), (1, w64 ((N + 1 : Nat) : Int)), (9, 0), (0, (k : Int) - 1), (0, (ndf u (2 ^ c) : Nat))] [] (up M 413 (k : Nat) (w : Nat)) r) (g4 : c ≠ b → w = 4 → Ev (d + 3) K_Mo_paths 1 24 [(18, 400), (0, x1), (0, (b : Nat)), (1, w64 (N : Nat)), (9, 0), (0, (k : Int) - 1), (0, (ndf u (2 ^ c) : Nat))] [] (up M 413 (k : Nat) (w : Nat)) r) (gs : c ≠ b → w < 4 → ¬ (opn (HM m 401) (c : Nat) (w : Nat) = true ∧ ¬ u.testBit (bey (c : Nat) (w : Nat)).toNat = true) → Ev (d + 3) K_Mo_paths 1 24 [(18, 400), (0, x1), (0, (b : Nat)), (1, w64 (N : Nat)), (9, 0), (0, (k : Nat)), (0, (u : Nat))] [] (up M 413 (k : Nat) (w : Nat)) r) (gp : c ≠ b → w < 4 → ∀ e : Nat, bey (c : Nat) (w : Nat) = (e : Nat) → e < 25 → opn (HM m 401) (c : Nat) (w : Nat) = true → ¬ u.testBit e = true → k + 1 < 26 ∧ Ev (d + 3) K_Mo_paths 1 24 [(18, 400), (0, x1), (0, (b : Nat)), (1, w64 (N : Nat)), (9, 0), (0, ((k + 1 : Nat) : Int)), (0, (u ||| 2 ^ e : Nat))] [] (up (up (up M 413 (k : Nat) (w : Nat)) 412 ((k + 1 : Nat) : Int) (e : Nat)) 413 ((k + 1 : Nat) : Int) (-1)) r) : Ev (d + 3) K_Mo_paths 1 24 [(18, 400), (0, x1), (0, (b : Nat)), (1, w64 (N : Nat)), (9, 0), (0, (k : Nat)), (0, (u : Nat))] [] M r := by
  have ew : w32 (M 413 (k : Nat) + 1) = (w : Nat) := by rw [h2, w32n (by omega) (by omega)]; omega
  have e2 : w32 ((k : Int) + 1) = ((k + 1 : Nat) : Int) := w32s (by omega)
  have e3 : w32 ((k : Int) + -1) = (k : Int) - 1 := by rw [w32n (by omega) (by omega)]; omega
  have hpc := (p25 hc).1
  obtain ⟨M1, hM1⟩ : ∃ M1, M1 = up M 413 (k : Nat) (w : Nat) := ⟨_, rfl⟩
  have f1 : M1 412 (k : Nat) = (c : Nat) := by rw [hM1, up_ne (by omega), h1]
  have f2 : M1 413 (k : Nat) = (w : Nat) := by rw [hM1, up_eq]
  have e401 : M1 401 = m 401 := by funext x; rw [hM1, up_ne (by omega), hF _ _ (by omega) (by omega)]
  rw [← hM1] at ge g4 gs gp
  have at46 : (c = b ∨ w = 4) → Ev (d + 3) K_Mo_paths 1 46 [(18, 400), (0, x1), (0, (b : Nat)), (1, w64 (N : Nat)), (9, 0), (0, (k : Nat)), (0, (u : Nat))] [] M1 r := by
    intro hcw
    have ei : ian ((u : Nat) : Int) (ixo (isl 1 (M1 412 (k : Nat))) (-1)) = ((ndf u (2 ^ c) : Nat) : Int) := by
      rw [f1, isl1 (by omega), ian_not (by omega) (by omega)]
    refine b_Mo_paths_46 ⟨by omega, fun z => ⟨by omega, ?_⟩, fun z => ⟨by omega, ?_⟩⟩
    · rw [f1] at z
      rw [ei, e3, w64_l, Int.add_zero]
      rcases hcw with q | q
      · omega
      · exact g4 (by omega) q
    · rw [Classical.not_not, f1] at z
      rw [ei, e3, w64_l]
      exact ge (by omega)
  refine b_Mo_paths_24 ⟨fun z => by omega, fun _ => ⟨by omega, by omega, ?_⟩⟩
  intro m1 hm1
  rw [ew, ← hM1] at hm1
  subst hm1
  rw [f1, f2]
  refine ⟨by omega, fun z => at46 (Or.inl (by omega)), fun z => ⟨by omega, fun z4 => ⟨by omega, by omega, ?_⟩, fun z4 => at46 (Or.inr (by omega))⟩⟩
  have hw4 : w < 4 := by omega
  have hcI : cellI ((c : Nat) : Int) := ⟨by omega, by omega⟩
  have hwI : wayI ((w : Nat) : Int) := ⟨by omega, by omega⟩
  have hop := c_Mo_isOpen (d := d) (m := m1) (c := (c : Nat)) (w := (w : Nat)) (by rw [e401]; exact h8) (by rw [e401]; exact h9) hcI hwI
  rw [HM_row e401] at hop
  refine ⟨_, _, hop, fun z5 => ?_, fun z5 => ⟨by omega, by omega, ?_⟩⟩
  · rw [ite_z] at z5
    exact gs (by omega) hw4 (fun q => z5 q.1)
  · rw [ite_z1] at z5
    obtain ⟨e, x1', x2, x3⟩ := opn_nbr hc hw4 z5
    have hbs := c_Mo_beside (d := d + 2) (m := m1) hcI hwI
    rw [x1'] at hbs
    rw [f1, f2]
    refine ⟨_, _, hbs, _, _, c_Mo_has (by omega) (by omega), fun z6 => ?_, fun z6 => ?_⟩
    · rw [ite_z] at z6
      have z6' : ¬ u.testBit e = true := z6
      obtain ⟨y1, y2⟩ := gp (by omega) hw4 e x1' x2 z5 z6'
      rw [f1, f2]
      refine ⟨by omega, by omega, _, _, hbs, ?_⟩
      rw [e2]
      refine ⟨by omega, ?_⟩
      rintro m6 rfl
      refine ⟨by omega, ?_⟩
      rintro m7 rfl
      refine ⟨by omega, ?_⟩
      rw [up_ne (by omega), up_eq, (or_pow_in hu x2).1]
      exact y2
    · rw [ite_z1] at z6
      have z6' : u.testBit e = true := z6
      exact gs (by omega) hw4 (fun q => q.2 (by rw [x1', Int.toNat_natCast]; exact z6'))
theorem mo_paths {d : Nat} {m : Mm} {x1 : Int} {b : Nat} {Rv : Int} (h8 : hv20 (m 401 8)) (h9 : hv20 (m 401 9)) (hb : b < 25) : ∀ (f k : Nat) (pa ob : Nat → Int), k + f = 24 → ∀ (t w c u N : Nat) (M : Mm), w + t = 4 → c < 25 → c ≠ b → u < 2 ^ 25 → k + 1 ≤ crd u → M 412 (k : Nat) = (c : Nat) → M 413 (k : Nat) = (w : Int) - 1 → (∀ i : Nat, i < k → M 412 (i : Nat) = pa i ∧ M 413 (i : Nat) = ob i) → (∀ a x, a ≠ 412 → a ≠ 413 → M a x = m a x) → (∀ M' : Mm, (∀ i : Nat, i < k → M' 412 (i : Nat) = pa i ∧ M' 413 (i : Nat) = ob i) → (∀ a x, a ≠ 412 → a ≠ 413 → M' a x = m a x) → ∃ m', Ev (d + 3) K_Mo_paths 1 24 [(18, 400), (0, x1), (0, (b : Nat)), (1, w64 ((N + wsm (wyG (HM m 401) b f c u) t w : Nat) : Int)), (9, 0), (0, (k : Int) - 1), (0, (ndf u (2 ^ c) : Nat))] [] M' (some (1, Rv), m') ∧ ∀ a x, a ≠ 412 → a ≠ 413 → m' a x = m a x) → ∃ m', Ev (d + 3) K_Mo_paths 1 24 [(18, 400), (0, x1), (0, (b : Nat)), (1, w64 (N : Nat)), (9, 0), (0, (k : Nat)), (0, (u : Nat))] [] M (some (1, Rv), m') ∧ ∀ a x, a ≠ 412 → a ≠ 413 → m' a x = m a x := by
  intro f
  induction f with
  | zero =>
    intro k pa ob hk t
    induction t with
    | zero =>
      intro w c u N M hw hc hcb hu hcr h1 h2 h3 hF hcont
      obtain ⟨m', y1, y2⟩ := hcont (up M 413 (k : Nat) (w : Nat)) (fun i hi => ⟨by rw [up_ne (by omega)]; exact (h3 i hi).1, by rw [up_nk (by omega)]; exact (h3 i hi).2⟩) (fun a x z1 z2 => by rw [up_ne z2]; exact hF a x z1 z2)
      exact ⟨m', pa_st h8 h9 hF (by omega) hc (by omega) hu h1 h2 (fun z => absurd z hcb) (fun _ _ => y1) (fun _ z => by omega) (fun _ z => by omega), y2⟩
    | succ t iht =>
      intro w c u N M hw hc hcb hu hcr h1 h2 h3 hF hcont
      have hfull : ∀ e, e < 25 → u.testBit e = true := fun e he => by
        apply Classical.byContradiction
        intro z
        have q1 := crd_or hu he z
        have q2 := crd_le (u ||| 2 ^ e)
        omega
      have hg : wyG (HM m 401) b 0 c u w = 0 := by
        unfold wyG
        rw [if_neg]
        intro z
        obtain ⟨e, e1, e2, e3⟩ := opn_nbr hc (by omega) z.1
        rw [e1, Int.toNat_natCast] at z
        exact z.2 (hfull e e2)
      obtain ⟨m', y1, y2⟩ := iht (w + 1) c u N (up M 413 (k : Nat) (w : Nat)) (by omega) hc hcb hu hcr (by rw [up_ne (by omega)]; exact h1) (by rw [up_eq]; omega) (fun i hi => ⟨by rw [up_ne (by omega)]; exact (h3 i hi).1, by rw [up_nk (by omega)]; exact (h3 i hi).2⟩) (fun a x z1 z2 => by rw [up_ne z2]; exact hF a x z1 z2) (fun M' z1 z2 => by
        have := hcont M' z1 z2
        rw [wsm, hg, Nat.zero_add] at this
        exact this)
      refine ⟨m', pa_st h8 h9 hF (by omega) hc (by omega) hu h1 h2 (fun z => absurd z hcb) (fun _ z => by omega) (fun _ _ _ => y1) (fun _ _ e _ he _ z => absurd (hfull e he) z), y2⟩
  | succ f ih =>
    intro k pa ob hk t
    induction t with
    | zero =>
      intro w c u N M hw hc hcb hu hcr h1 h2 h3 hF hcont
      obtain ⟨m', y1, y2⟩ := hcont (up M 413 (k : Nat) (w : Nat)) (fun i hi => ⟨by rw [up_ne (by omega)]; exact (h3 i hi).1, by rw [up_nk (by omega)]; exact (h3 i hi).2⟩) (fun a x z1 z2 => by rw [up_ne z2]; exact hF a x z1 z2)
      exact ⟨m', pa_st h8 h9 hF (by omega) hc (by omega) hu h1 h2 (fun z => absurd z hcb) (fun _ _ => y1) (fun _ z => by omega) (fun _ z => by omega), y2⟩
    | succ t iht =>
      intro w c u N M hw hc hcb hu hcr h1 h2 h3 hF hcont
      have hw4 : w < 4 := by omega
      by_cases hgo : opn (HM m 401) (c : Nat) (w : Nat) = true ∧ ¬ u.testBit (bey (c : Nat) (w : Nat)).toNat = true
      · obtain ⟨e, e1, e2, e3⟩ := opn_nbr hc hw4 hgo.1
        have hue : ¬ u.testBit e = true := by have := hgo.2; rw [e1, Int.toNat_natCast] at this; exact this
        have hg : wyG (HM m 401) b (f + 1) c u w = pth (HM m 401) b (f + 1) e (u ||| 2 ^ e) := by
          unfold wyG
          rw [if_pos hgo, e1, Int.toNat_natCast]
        have hcr2 := crd_or hu e2 hue
        have hu2 := or_lt hu (p25 e2).1
        obtain ⟨M3, hM3⟩ : ∃ M3, M3 = up (up (up M 413 (k : Nat) (w : Nat)) 412 ((k + 1 : Nat) : Int) (e : Nat)) 413 ((k + 1 : Nat) : Int) (-1) := ⟨_, rfl⟩
        have a1 : M3 412 ((k + 1 : Nat) : Int) = (e : Nat) := by rw [hM3, up_ne (by omega), up_eq]
        have a2 : M3 413 ((k + 1 : Nat) : Int) = ((0 : Nat) : Int) - 1 := by rw [hM3, up_eq]; rfl
        have a3 : M3 412 (k : Nat) = (c : Nat) := by rw [hM3, up_ne (by omega), up_nk (by omega), up_ne (by omega), h1]
        have a4 : M3 413 (k : Nat) = (w : Nat) := by rw [hM3, up_nk (by omega), up_ne (by omega), up_eq]
        have a5 : ∀ i : Nat, i < k → M3 412 (i : Nat) = pa i ∧ M3 413 (i : Nat) = ob i := fun i hi => ⟨by rw [hM3, up_ne (by omega), up_nk (by omega), up_ne (by omega)]; exact (h3 i hi).1, by rw [hM3, up_nk (by omega), up_ne (by omega), up_nk (by omega)]; exact (h3 i hi).2⟩
        have a6 : ∀ a x, a ≠ 412 → a ≠ 413 → M3 a x = m a x := fun a x z1 z2 => by rw [hM3, up_ne z2, up_ne z1, up_ne z2]; exact hF a x z1 z2
        -- back at this level
        have back : ∀ M' : Mm, M' 412 (k : Nat) = (c : Nat) → M' 413 (k : Nat) = (w : Nat) → (∀ i : Nat, i < k → M' 412 (i : Nat) = pa i ∧ M' 413 (i : Nat) = ob i) → (∀ a x, a ≠ 412 → a ≠ 413 → M' a x = m a x) → ∃ m', Ev (d + 3) K_Mo_paths 1 24 [(18, 400), (0, x1), (0, (b : Nat)), (1, w64 ((N + pth (HM m 401) b (f + 1) e (u ||| 2 ^ e) : Nat) : Int)), (9, 0), (0, (k : Nat)), (0, (u : Nat))] [] M' (some (1, Rv), m') ∧ ∀ a x, a ≠ 412 → a ≠ 413 → m' a x = m a x := by
          intro M' b1 b2 b3 b4
          refine iht (w + 1) c u _ M' (by omega) hc hcb hu hcr b1 (by rw [b2]; omega) b3 b4 (fun M'' z1 z2 => ?_)
          have := hcont M'' z1 z2
          rw [wsm, hg, ← Nat.add_assoc] at this
          exact this
        have deep : ∃ m', Ev (d + 3) K_Mo_paths 1 24 [(18, 400), (0, x1), (0, (b : Nat)), (1, w64 (N : Nat)), (9, 0), (0, ((k + 1 : Nat) : Int)), (0, (u ||| 2 ^ e : Nat))] [] M3 (some (1, Rv), m') ∧ ∀ a x, a ≠ 412 → a ≠ 413 → m' a x = m a x := by
          have ek : ((k + 1 : Nat) : Int) - 1 = (k : Nat) := by omega
          by_cases heb : e = b
          · have hp1 : pth (HM m 401) b (f + 1) e (u ||| 2 ^ e) = 1 := by unfold pth; rw [if_pos heb]
            obtain ⟨m', y1, y2⟩ := back (up M3 413 ((k + 1 : Nat) : Int) ((0 : Nat) : Int)) (by rw [up_ne (by omega)]; exact a3) (by rw [up_nk (by omega)]; exact a4) (fun i hi => ⟨by rw [up_ne (by omega)]; exact (a5 i hi).1, by rw [up_nk (by omega)]; exact (a5 i hi).2⟩) (fun a x z1 z2 => by rw [up_ne z2]; exact a6 a x z1 z2)
            rw [hp1] at y1
            refine ⟨m', pa_st (k := k + 1) (w := 0) h8 h9 a6 (by omega) e2 (by omega) hu2 a1 a2 (fun _ => ?_) (fun z => absurd heb z) (fun z => absurd heb z) (fun z => absurd heb z), y2⟩
            rw [ek, ndf_or hue]
            exact y1
          · refine ih (k + 1) (fun i => if i = k then (c : Nat) else pa i) (fun i => if i = k then (w : Nat) else ob i) (by omega) 4 0 e (u ||| 2 ^ e) N M3 rfl e2 heb hu2 (by omega) a1 a2 (fun i hi => ?_) a6 (fun M' z1 z2 => ?_)
            · by_cases hik : i = k
              · subst hik
                rw [if_pos rfl, if_pos rfl]
                exact ⟨a3, a4⟩
              · rw [if_neg hik, if_neg hik]
                exact a5 i (by omega)
            · rw [ek, ndf_or hue]
              have hpw : pth (HM m 401) b (f + 1) e (u ||| 2 ^ e) = wsm (wyG (HM m 401) b f e (u ||| 2 ^ e)) 4 0 := by
                conv => lhs; unfold pth
                rw [if_neg heb]
              rw [← hpw]
              refine back M' ?_ ?_ (fun i hi => ?_) z2
              · have := (z1 k (by omega)).1; rw [if_pos rfl] at this; exact this
              · have := (z1 k (by omega)).2; rw [if_pos rfl] at this; exact this
              · have := z1 i (by omega)
                rw [if_neg (by omega), if_neg (by omega)] at this
                exact this
        obtain ⟨m', y1, y2⟩ := deep
        refine ⟨m', pa_st h8 h9 hF (by omega) hc (by omega) hu h1 h2 (fun z => absurd z hcb) (fun _ z => by omega) (fun _ _ z => absurd hgo z) (fun _ _ e' x1' _ _ _ => ⟨by omega, ?_⟩), y2⟩
        obtain rfl : e' = e := by omega
        rw [← hM3]
        exact y1
      · have hg : wyG (HM m 401) b (f + 1) c u w = 0 := by
          unfold wyG
          rw [if_neg hgo]
        obtain ⟨m', y1, y2⟩ := iht (w + 1) c u N (up M 413 (k : Nat) (w : Nat)) (by omega) hc hcb hu hcr (by rw [up_ne (by omega)]; exact h1) (by rw [up_eq]; omega) (fun i hi => ⟨by rw [up_ne (by omega)]; exact (h3 i hi).1, by rw [up_nk (by omega)]; exact (h3 i hi).2⟩) (fun a x z1 z2 => by rw [up_ne z2]; exact hF a x z1 z2) (fun M' z1 z2 => by
          have := hcont M' z1 z2
          rw [wsm, hg, Nat.zero_add] at this
          exact this)
        refine ⟨m', pa_st h8 h9 hF (by omega) hc (by omega) hu h1 h2 (fun z => absurd z hcb) (fun _ z => by omega) (fun _ _ _ => y1) (fun _ _ e x1' _ xo xu => absurd ⟨xo, by rw [x1', Int.toNat_natCast]; exact xu⟩ hgo), y2⟩
theorem op_paths {m : Mm} {x y : Int} (h : R m) : OP k_Th_paths k_Mo_paths 1 [(0, x), (0, y)] m := by
  obtain ⟨_, v8, v9, _⟩ := R_h h
  by_cases hxy : (0 ≤ x ∧ x < 25) ∧ 0 ≤ y ∧ y < 25
  · obtain ⟨hx, hy⟩ := hxy
    obtain ⟨a, rfl⟩ := Int.eq_ofNat_of_zero_le hx.1
    obtain ⟨b, rfl⟩ := Int.eq_ofNat_of_zero_le hy.1
    have ha : a < 25 := by omega
    obtain ⟨p1, p2, p3⟩ := p25 ha
    obtain ⟨m1, q1, q2, q3⟩ := c_Th_mazeNow (d := 117) h
    have e401 : m1 401 = m 401 := by funext b; exact q3 _ _ (by omega)
    have nx : ¬ (if 0 ≤ ((a : Nat) : Int) ∧ ((a : Nat) : Int) < 25 then (1 : Int) else 0) = 0 := by rw [ite_z1]; exact hx
    have ny : ¬ (if 0 ≤ ((b : Nat) : Int) ∧ ((b : Nat) : Int) < 25 then (1 : Int) else 0) = 0 := by rw [ite_z1]; exact hy
    have w8 : hv20 (m1 401 8) := by rw [e401]; exact v8
    have w9 : hv20 (m1 401 9) := by rw [e401]; exact v9
    obtain ⟨M0, hM0⟩ : ∃ M0, M0 = up (up m1 412 0 (a : Nat)) 413 0 (-1) := ⟨_, rfl⟩
    have a1 : M0 412 ((0 : Nat) : Int) = (a : Nat) := by rw [hM0, up_ne (by omega)]; exact up_eq
    have a2 : M0 413 ((0 : Nat) : Int) = ((0 : Nat) : Int) - 1 := by rw [hM0]; exact up_eq
    have a6 : ∀ i j, i ≠ 412 → i ≠ 413 → M0 i j = m1 i j := fun i j z1 z2 => by rw [hM0, up_ne z2, up_ne z1]
    have fin : ∀ (N u : Nat) (M' : Mm), Ev 120 K_Mo_paths 1 24 [(18, 400), (0, (a : Nat)), (0, (b : Nat)), (1, w64 (N : Nat)), (9, 0), (0, ((0 : Nat) : Int) - 1), (0, (u : Nat))] [] M' (some (1, w64 (N : Nat)), M') := fun N u M' => b_Mo_paths_24 ⟨fun _ => rfl, fun z => absurd (by omega) z⟩
    have run : ∃ m2, Ev 120 K_Mo_paths 1 24 [(18, 400), (0, (a : Nat)), (0, (b : Nat)), (1, w64 ((0 : Nat) : Int)), (9, 0), (0, ((0 : Nat) : Int)), (0, (2 ^ a : Nat))] [] M0 (some (1, w64 (pth (HM m 401) b 25 a (2 ^ a) : Nat)), m2) ∧ ∀ i j, i ≠ 412 → i ≠ 413 → m2 i j = m1 i j := by
      by_cases hab : a = b
      · have hp1 : pth (HM m 401) b 25 a (2 ^ a) = 1 := by unfold pth; rw [if_pos hab]
        rw [hp1]
        exact ⟨up M0 413 ((0 : Nat) : Int) ((0 : Nat) : Int), pa_st (d := 117) (k := 0) (w := 0) w8 w9 a6 (by omega) ha (by omega) p1 a1 a2 (fun _ => fin _ _ _) (fun z => absurd hab z) (fun z => absurd hab z) (fun z => absurd hab z), fun i j z1 z2 => by rw [up_ne z2]; exact a6 i j z1 z2⟩
      · have hpw : pth (HM m 401) b 25 a (2 ^ a) = wsm (wyG (HM m 401) b 24 a (2 ^ a)) 4 0 := by
          conv => lhs; unfold pth
          rw [if_neg hab]
        have hc1 : 1 ≤ crd (2 ^ a) := by
          have := crd_low p1 p3
          omega
        refine mo_paths (d := 117) (m := m1) (x1 := (a : Nat)) (b := b) w8 w9 (by omega) 24 0 (fun _ => 0) (fun _ => 0) rfl 4 0 a (2 ^ a) 0 M0 rfl ha hab p1 hc1 a1 a2 (fun i hi => by omega) a6 (fun M' z1 z2 => ⟨M', ?_, z2⟩)
        rw [HM_row e401, Nat.zero_add, ← hpw]
        exact fin _ _ _
    obtain ⟨m2, y1, y2⟩ := run
    refine OP_q h (v := w64 (pth (HM m 401) b 25 a (2 ^ a) : Nat)) (cl_Th_paths (b_Th_paths ⟨_, _, c_Pl_isCell, fun z => absurd z nx, fun _ => ⟨_, _, c_Pl_isCell, fun _ => ⟨_, q1, ?_⟩, fun z => absurd ny z⟩⟩)) (cl_Mo_paths (b_Mo_paths ⟨_, _, c_Mo_areCells, fun _ => ?_, fun z => ?_⟩)) (SM_13 q3) (fun i j hij => by unfold scr at hij; exact y2 i j (by omega) (by omega))
    · rw [isl1 (by omega)]
      exact ⟨_, _, c_Mz_pathsTo (d := 92) q2 ha (by omega), rfl⟩
    · rintro m3 rfl
      rintro m4 rfl
      rw [← hM0, isl1 (by omega)]
      exact y1
    · rw [ite_z1] at z
      exact absurd ⟨hx, hy⟩ z
  · refine OP_e h (v := -1) (cl_Th_paths (b_Th_paths ⟨_, _, c_Pl_isCell, fun _ => rfl, fun z => ⟨_, _, c_Pl_isCell, fun z2 => ?_, fun _ => rfl⟩⟩)) (cl_Mo_paths (b_Mo_paths ⟨_, _, c_Mo_areCells, fun z => ?_, fun _ => rfl⟩))
    · rw [ite_z1] at z z2
      exact absurd ⟨z, z2⟩ hxy
    · rw [ite_z1] at z
      exact absurd z hxy
