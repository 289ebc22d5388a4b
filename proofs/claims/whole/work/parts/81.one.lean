/-! THE TWO PARSERS: one -/
theorem landHere_c {d x S : Nat} {m : Mm} {c : Int} (h5 : m 82 5 = (S : Nat)) (hx : x < S) (hS : S ≤ 300) (hc : m 86 (x : Nat) = c) (c0 : 0 ≤ c ∧ c < 64) : Cl d k_Tx_landHere [(16, 82), (0, (x : Nat))] m (none, up m 86 (x : Nat) (c + (S : Int) * 64)) := by
  have e : irm c 64 = c := by rw [irm_n (by omega) (by omega) (by omega) (by omega)]; omega
  refine cl_Tx_landHere (b_Tx_landHere ⟨fun z => by omega, fun _ => ⟨fun z => by omega, fun _ => ⟨by omega, by omega, ?_⟩⟩⟩)
  rintro m1 rfl
  rw [h5, show (82 : Int) + 4 = 86 from rfl, hc, e, w32n (x := (S : Int) * 64) (by omega) (by omega), w32n (by omega) (by omega)]
theorem landHere_a {d x : Nat} {m : Mm} (hx : x < 300) : ∃ m', Cl d k_Tx_landHere [(16, 82), (0, (x : Nat))] m (none, m') ∧ ∀ a b : Int, ¬ (a = 86 ∧ b = (x : Nat)) → m' a b = m a b := by
  by_cases h : m 82 5 ≤ (x : Nat)
  · exact ⟨m, cl_Tx_landHere (b_Tx_landHere ⟨fun z => by omega, fun _ => ⟨fun _ => rfl, fun z => absurd h z⟩⟩), fun _ _ _ => rfl⟩
  · refine ⟨up m 86 (x : Nat) (w32 (irm (m 86 (x : Nat)) 64 + w32 (m 82 5 * 64))), cl_Tx_landHere (b_Tx_landHere ⟨fun z => by omega, fun _ => ⟨fun z => absurd z h, fun _ => ⟨by omega, by omega, ?_⟩⟩⟩), fun a b z => ?_⟩
    · intro m1 e
      rw [e]
      rfl
    · unfold up
      rw [if_neg z]
/-- what is inside: from the token behind what opens, o counts it -/
def rI_ (B : Int → Int) (L : Nat) (t so T : Int) (q s w o : Nat) (π : List Int) (m N : Mm) : Prop :=
  (∃ q' s' w' wh m' N', Cl (dpA (o + 1) + 7) k_Rd_inside [(15, 80), (0, T)] m (some (0, 1), m') ∧ CSt B L (16 + so) m' q' s' ((o + 1 : Nat) : Int) ∧ FCl s m m' ∧ MSt B L t so N' q' w' π (o : Nat) wh ∧ FMo t w N N' ∧ (q < q' ∧ q' ≤ L ∧ s' + q ≤ q' + s + 1 ∧ w' + q ≤ q' + w + 1 ∧ s ≤ s' ∧ w ≤ w') ∧ WX (cC m') (cO t N') (cV t N') so false s s' w w' ∧ ∀ (r : Option Vv × Mm) (u : Vv), RE2 4 N' r → lp_ N u r)
  ∨ (∃ f p, 0 < f ∧ cf_ (dpA (o + 1) + 7) k_Rd_inside [(15, 80), (0, T)] m s f p ∧ mf_ t w N f p)
theorem one_nest {B : Int → Int} {L : Nat} {t so x : Int} (hT : TPE B L) (hs : so = 0 ∨ so = 1) {q s w o : Nat} {π : List Int} {m N : Mm} (hp : pre_ B L t so q s w o π m N 0) (hT5 : tkT B L q = 11 ∨ tkT B L q = 8 ∨ tkT B L q = 33 ∨ tkT B L q = 35 ∨ tkT B L q = 36) (hx : opk (tkT B L q) (askA π) = x) (hx1 : x ≠ -1) (hI : o < 8 → ∀ m2 N2, pre_ B L t so (nxQ B L q) s w (o + 1) (x :: π) m2 N2 5 → rI_ B L t so (tkT B L q) (nxQ B L q) s w o π m2 N2) : rO_ B L t so q s w o π m N := by
  obtain ⟨p1, p2, p3, p4, p5, p6, p7⟩ := hp
  have e6 : m 80 6 = tkT B L q := p1.1.2.2.2.1
  have hL := hT.1
  have one : ∀ (A : Nat) (v : Int) (m' : Mm), (v = 0 ∨ v = 1) → Cl A k_Rd_nested [(15, 80)] m (some (0, v), m') → Cl (A + 1) k_Rd_one [(15, 80)] m (some (0, v), m') := fun A v m' hv h => by
    have h42 : Ev (A + 1) K_Rd_one 2 42 [(15, 80), (9, 0)] [] m (some (0, v), m') := by
      refine b_Rd_one_42 ⟨fun _ => ⟨v, m', h, hv, rfl⟩, fun z1 => ⟨fun _ => ⟨v, m', h, hv, rfl⟩, fun z2 => ⟨fun _ => ⟨v, m', h, hv, rfl⟩, fun z3 => ⟨fun _ => ⟨v, m', h, hv, rfl⟩, fun z4 => ⟨fun z5 => ?_, fun _ => ⟨v, m', h, hv, rfl⟩⟩⟩⟩⟩⟩
      omega
    refine cl_Rd_one (b_Rd_one ⟨fun _ => ⟨fun _ => h42, fun z => ⟨fun _ => h42, fun z2 => ?_⟩⟩, fun z => ?_⟩)
    · omega
    · omega
  by_cases h8 : o = 8
  · subst h8
    obtain ⟨m', c1, c2, c3⟩ := nested_8 (d := 4) p1
    exact Or.inr ⟨3, q, by decide, ⟨m', (one 5 0 m' (Or.inl rfl) c1).up (by decide), c2, c3⟩, N, FMo_refl, mo_place p2, fun u => mo_open8 (d := 0) hT p2 hs (by omega) (by omega) (by omega) (by rw [hx]; exact hx1) u⟩
  · have ho : o < 8 := by omega
    obtain ⟨nx1, nx2, nx3⟩ := nxQ_v (B := B) p4
    have nx4 := nx3 (by omega)
    have hd : dpA o = dpA (o + 1) + 9 := by unfold dpA; omega
    obtain ⟨m2, c1, c2, c3⟩ := nested_c (d := dpA (o + 1) + 5) hT p1 ho
    obtain ⟨N2, n1, n2, n3⟩ := mo_open (d := 0) hT p2 hs (by omega) (by omega) (by omega) (by omega) (by rw [hx]; exact hx1)
    rw [hx] at n1
    rcases hI ho m2 N2 ⟨c1, n1, by omega, nx1, by rw [List.length_cons]; omega, by omega, by rw [List.length_cons]; omega⟩ with ⟨q', s', w', wh, m3, N', g1, g2, g3, g4, g5, ⟨g6, g7, g8, g9, g10, g11⟩, g12, g13⟩ | ⟨f, p, f0, g1, g2⟩
    · refine Or.inl ⟨q', s', w', wh, _, N', by rw [hd]; exact one _ 1 _ (Or.inr rfl) (c3 1 m3 (Or.inr rfl) g1), nest_ok g2 ho, nest_F (c2.tr g3 (Nat.le_refl _)), g4, n2.tr g5 (Nat.le_refl _), ⟨by omega, g7, by omega, by omega, g10, g11⟩, WX_ext g12 (fun j _ _ => ?_) (fun _ _ _ => ⟨rfl, rfl⟩), fun r u hr => n3 r u (g13 r _ hr)⟩
      show up m3 80 11 _ 86 _ = m3 86 _
      rw [up_ne (by omega)]
    · obtain ⟨m', z1, z2, z3⟩ := nested_f c2 c3 (Nat.le_refl _) g1
      exact Or.inr ⟨f, p, f0, ⟨m', by rw [hd]; exact one _ 0 m' (Or.inl rfl) z1, z2, z3⟩, mf_pre n2 (Nat.le_refl _) n3 g2⟩
/-- a minus, a hedge -/
theorem in_un {B : Int → Int} {L : Nat} {t so T x c : Int} {n : Nat} (hT : TPE B L) (h0 : 0 ≤ t ∧ t ≤ 2043) (hO : sO_ B L t so n) {q s w o : Nat} {π : List Int} {m N : Mm} (hn : L - q < n) (hsq : s < q) (ho : o < 8) (hp : pre_ B L t so q s w (o + 1) (x :: π) m N 5) (hx : rk x = 7 ∧ x < 40) (hc : 0 ≤ c ∧ c < 64) (hX : ∀ (C Mo Mv : Nat → Int) (p p1 q q1 : Nat), WX C Mo Mv so false p p1 q q1 → C p1 = c → Mo q1 = x → WX C Mo Mv so false p (p1 + 1) q (q1 + 1)) (h1 : ∀ m1 m3, Cl (dpA (o + 1) + 6) k_Rd_one [(15, 80)] m (some (0, 1), m1) → Cl (dpA (o + 1) + 6) k_Tx_emit [(16, 82), (0, c), (0, 0)] m1 (some (0, 1), m3) → Cl (dpA (o + 1) + 7) k_Rd_inside [(15, 80), (0, T)] m (some (0, 1), m3)) (hf : ∀ m1, Cl (dpA (o + 1) + 6) k_Rd_one [(15, 80)] m (some (0, 0), m1) → Cl (dpA (o + 1) + 7) k_Rd_inside [(15, 80), (0, T)] m (some (0, 0), m1)) : rI_ B L t so T q s w o π m N := by
  have hL := hT.1
  have hp' := hp.2.2
  rw [List.length_cons] at hp'
  rcases hO q s w (o + 1) (x :: π) m N hn (pre_le hp (by omega)) (fun _ => askA_f (by omega) (by omega)) with ⟨q1, s1, w1, wh, m1, N1, g1, a1, a2, a3, a4, ⟨a5, a6, a7, a8, a9, a10⟩, a11, a12⟩ | ⟨f, p, f0, ⟨m1, y1, y2, y3⟩, g2⟩
  · obtain ⟨m3, k1, k2, k3, k4⟩ := emit_c (d := dpA (o + 1) + 6) (x := c) (y := 0) a1 (by omega) hc (by decide)
    obtain ⟨N', n1, n2, n3, n4⟩ := RE2_pop (d := 3) a3 h0 (by omega) (by omega) (by omega) hx.1
    rw [show ((o + 1 : Nat) : Int) - 1 = (o : Nat) by omega] at n1
    refine Or.inl ⟨q1, s1 + 1, w1 + 1, wh, m3, N', h1 m1 m3 (g1.up (by omega)) k1, k2, a2.tr k4 a9, n1, a4.tr n3 a10, ⟨a5, a6, by omega, by omega, by omega, by omega⟩, ?_, fun r u hr => a12 r u (n4 r hr)⟩
    refine hX _ _ _ _ _ _ _ (WX_ext a11 (fun j _ j2 => ?_) (fun j _ j2 => ⟨?_, ?_⟩)) (by show m3 86 _ = c; rw [k3]; omega) n2
    · show m3 86 _ = m1 86 _
      rw [k4 _ _ (by omega) (by omega) (by omega)]
    · exact n3 _ _ (by omega) (by omega) (by omega)
    · exact n3 _ _ (by omega) (by omega) (by omega)
  · exact Or.inr ⟨f, p, f0, ⟨m1, hf m1 (y1.up (by omega)), y2, y3⟩, g2⟩
