/-! CLAUSES: their sorts, deeds -/
def srt_ (T : Int) : Int := if 16 ≤ T ∧ T ≤ 24 then T - 16 else -1
theorem c_Mo_sortOf {d L q : Nat} {B : Int → Int} {N : Mm} (hT : TPE B L) (h : MTk B L N q) : Cl (d + 5) k_Mo_sortOf [(18, 400)] N (some (0, srt_ (tkT B L q)), N) := by
  have w0 := isW_m (d := d + 4) (i := 0) hT h (by decide) rfl
  rw [show (16 : Int) + ((0 : Nat) : Int) = 16 from rfl] at w0
  have w1 := isW_m (d := d + 4) (i := 1) hT h (by decide) rfl
  rw [show (16 : Int) + ((1 : Nat) : Int) = 17 from rfl] at w1
  have w2 := isW_m (d := d + 4) (i := 2) hT h (by decide) rfl
  rw [show (16 : Int) + ((2 : Nat) : Int) = 18 from rfl] at w2
  have w3 := isW_m (d := d + 4) (i := 3) hT h (by decide) rfl
  rw [show (16 : Int) + ((3 : Nat) : Int) = 19 from rfl] at w3
  have w4 := isW_m (d := d + 4) (i := 4) hT h (by decide) rfl
  rw [show (16 : Int) + ((4 : Nat) : Int) = 20 from rfl] at w4
  have w5 := isW_m (d := d + 4) (i := 5) hT h (by decide) rfl
  rw [show (16 : Int) + ((5 : Nat) : Int) = 21 from rfl] at w5
  have w6 := isW_m (d := d + 4) (i := 6) hT h (by decide) rfl
  rw [show (16 : Int) + ((6 : Nat) : Int) = 22 from rfl] at w6
  have w7 := isW_m (d := d + 4) (i := 7) hT h (by decide) rfl
  rw [show (16 : Int) + ((7 : Nat) : Int) = 23 from rfl] at w7
  have w8 := isW_m (d := d + 4) (i := 8) hT h (by decide) rfl
  rw [show (16 : Int) + ((8 : Nat) : Int) = 24 from rfl] at w8
  unfold srt_
  refine cl_Mo_sortOf (b_Mo_sortOf ⟨_, _, c_Mo_w6 (by decide), _, _, w0, fun z0 => ⟨_, _, c_Mo_w4 (by decide), _, _, w1, fun z1 => ⟨_, _, c_Mo_w3 (by decide), _, _, w2, fun z2 => ⟨_, _, c_Mo_w4 (by decide), _, _, w3, fun z3 => ⟨_, _, c_Mo_w5 (by decide), _, _, w4, fun z4 => ⟨_, _, c_Mo_w3 (by decide), _, _, w5, fun z5 => ⟨_, _, c_Mo_w5 (by decide), _, _, w6, fun z6 => ⟨_, _, c_Mo_w2 (by decide), _, _, w7, fun z7 => ⟨_, _, c_Mo_w4 (by decide), _, _, w8, fun z8 => ?_, fun z8 => ?_⟩, fun z7 => ?_⟩, fun z6 => ?_⟩, fun z5 => ?_⟩, fun z4 => ?_⟩, fun z3 => ?_⟩, fun z2 => ?_⟩, fun z1 => ?_⟩, fun z0 => ?_⟩)
  · rw [ite_z] at z0 z1 z2 z3 z4 z5 z6 z7 z8
    rw [if_neg (by omega)]
  · rw [ite_z1] at z8
    rw [if_pos (by omega), z8]
    rfl
  · rw [ite_z1] at z7
    rw [if_pos (by omega), z7]
    rfl
  · rw [ite_z1] at z6
    rw [if_pos (by omega), z6]
    rfl
  · rw [ite_z1] at z5
    rw [if_pos (by omega), z5]
    rfl
  · rw [ite_z1] at z4
    rw [if_pos (by omega), z4]
    rfl
  · rw [ite_z1] at z3
    rw [if_pos (by omega), z3]
    rfl
  · rw [ite_z1] at z2
    rw [if_pos (by omega), z2]
    rfl
  · rw [ite_z1] at z1
    rw [if_pos (by omega), z1]
    rfl
  · rw [ite_z1] at z0
    rw [if_pos (by omega), z0]
    rfl
/-- a deed, by both -/
theorem deed_s {L q n s : Nat} {B : Int → Int} {m N : Mm} {k x lw o : Int} (hT : TPE B L) (hC : CSt B L lw m q s o) (hM : MTk B L N q) (hn : m 82 0 = (n : Nat)) (hn2 : n < 24) (hx : 0 ≤ x ∧ x + 2 < 2724) (hk : 2 ≤ k ∧ k ≤ 8) :
    (∃ q' m' N', Cl 60 k_Rd_deed [(15, 80), (0, 16 + k)] m (some (0, 1), m') ∧ Cl 14 k_Mo_body [(18, 400), (0, k), (0, x)] N (some (0, 0), N') ∧ CSt B L lw m' q' s o ∧ MTk B L N' q' ∧ (m' 82 0 = ((n + 1 : Nat) : Int) ∧ m' 83 (n : Nat) = 16 + k ∧ m' 84 (n : Nat) = N' 403 (x + 1) ∧ 0 ≤ N' 403 (x + 1) ∧ N' 403 (x + 1) ≤ 60 ∧ (k = 2 ∨ k = 6 ∨ k = 7 → m' 85 (n : Nat) = N' 403 (x + 2))) ∧ FDc n m m' ∧ FDm x N N' ∧ q < q' ∧ q' ≤ L)
    ∨ (∃ f p m' N', 0 < f ∧ Cl 60 k_Rd_deed [(15, 80), (0, 16 + k)] m (some (0, 0), m') ∧ flt_ m' f p ∧ FRd m m' ∧ Cl 14 k_Mo_body [(18, 400), (0, k), (0, x)] N (some (0, f), N') ∧ N' 400 9 = (p : Nat) ∧ FDm x N N') := by
  have ex1 : w32 (x + 1) = x + 1 := w32n (by omega) (by omega)
  have hk2 : k = 2 ∨ k = 3 ∨ k = 4 ∨ k = 5 ∨ k = 6 ∨ k = 7 ∨ k = 8 := by omega
  rcases hk2 with rfl | rfl | rfl | rfl | rfl | rfl | rfl
  · rcases dd_two (A := 12) (k := 16 + 2) (hi := 24) (hi2 := 3) (x := x) (i := 14) (W := 30) (wd := [119, 97, 121]) hT hC hM hn hn2 (by omega) (by decide) (by decide) (by decide) rfl rfl with ⟨q', m1, m', N', a1, a2, a3, a4, a5, ⟨a6, a7, a8, a9, a10, a11⟩, a12, a13, a14, a15⟩ | ⟨f, p, m', N', f0, a1, a2, a3, a4, a5, a6⟩
    · exact Or.inl ⟨q', m', N', cl_Rd_deed (b_Rd_deed ⟨fun _ => ⟨1, m1, a1.up (by decide), fun z => absurd z (by decide), fun _ => ⟨1, m', a2.up (by decide), fun z => absurd z (by decide), fun _ => rfl⟩⟩, fun z => absurd rfl z⟩), cl_Mo_body (b_Mo_body ⟨fun _ => ⟨_, _, c_Mo_w3 (by decide), 0, N', a3, rfl⟩, fun z => absurd rfl z⟩), a4, a5, ⟨a6, a7, a8, a9, by omega, fun _ => a11⟩, a12, a13, a14, a15⟩
    · refine Or.inr ⟨f, p, m', N', f0, ?_, a2, a3, cl_Mo_body (b_Mo_body ⟨fun _ => ⟨_, _, c_Mo_w3 (by decide), f, N', a4, rfl⟩, fun z => absurd rfl z⟩), a5, a6⟩
      rcases a1 with b1 | ⟨m1, b1, b2⟩
      · exact cl_Rd_deed (b_Rd_deed ⟨fun _ => ⟨0, m', b1.up (by decide), fun _ => rfl, fun z => absurd rfl z⟩, fun z => absurd rfl z⟩)
      · exact cl_Rd_deed (b_Rd_deed ⟨fun _ => ⟨1, m1, b1.up (by decide), fun z => absurd z (by decide), fun _ => ⟨0, m', b2.up (by decide), fun _ => rfl, fun z => absurd rfl z⟩⟩, fun z => absurd rfl z⟩)
  · rcases dd_one (A := 13) (k := 16 + 3) (lo := 0) (hi := 24) (x := x) hT hC hM hn hn2 (by omega) (by decide) (by decide) with ⟨m', N', a1, a2, a3, a4, ⟨a5, a6, a7, a8, a9⟩, a10, a11, a12, a13⟩ | ⟨f, m', f0, a1, a2, a3, a4⟩
    · refine Or.inl ⟨_, m', N', cl_Rd_deed (b_Rd_deed ⟨fun z => by omega, fun _ => ⟨fun _ => ⟨1, m', a1.up (by decide), Or.inr rfl, rfl⟩, fun z => absurd rfl z⟩⟩), cl_Mo_body (b_Mo_body ⟨fun z => by omega, fun _ => ⟨fun _ => ⟨0, N', ?_, rfl⟩, fun z => absurd rfl z⟩⟩), a3, a4, ⟨a5, a6, a7, by omega, by omega, fun z => by omega⟩, a10, fun a b y1 y2 => a11 a b y1 (by omega), a12, a13⟩
      rw [ex1]
      exact a2
    · refine Or.inr ⟨f, q, m', N, f0, cl_Rd_deed (b_Rd_deed ⟨fun z => by omega, fun _ => ⟨fun _ => ⟨0, m', a1.up (by decide), Or.inl rfl, rfl⟩, fun z => absurd rfl z⟩⟩), a2, a3, cl_Mo_body (b_Mo_body ⟨fun z => by omega, fun _ => ⟨fun _ => ⟨f, N, ?_, rfl⟩, fun z => absurd rfl z⟩⟩), hM.2.2.2.2.1, fun _ _ _ _ => rfl⟩
      rw [ex1]
      exact a4
  · rcases dd_one (A := 13) (k := 16 + 4) (lo := 0) (hi := 39) (x := x) hT hC hM hn hn2 (by omega) (by decide) (by decide) with ⟨m', N', a1, a2, a3, a4, ⟨a5, a6, a7, a8, a9⟩, a10, a11, a12, a13⟩ | ⟨f, m', f0, a1, a2, a3, a4⟩
    · refine Or.inl ⟨_, m', N', cl_Rd_deed (b_Rd_deed ⟨fun z => by omega, fun _ => ⟨fun z => by omega, fun _ => ⟨fun _ => ⟨1, m', a1.up (by decide), Or.inr rfl, rfl⟩, fun z => absurd rfl z⟩⟩⟩), cl_Mo_body (b_Mo_body ⟨fun z => by omega, fun _ => ⟨fun z => by omega, fun _ => ⟨fun _ => ⟨0, N', ?_, rfl⟩, fun z => absurd rfl z⟩⟩⟩), a3, a4, ⟨a5, a6, a7, by omega, by omega, fun z => by omega⟩, a10, fun a b y1 y2 => a11 a b y1 (by omega), a12, a13⟩
      rw [ex1]
      exact a2
    · refine Or.inr ⟨f, q, m', N, f0, cl_Rd_deed (b_Rd_deed ⟨fun z => by omega, fun _ => ⟨fun z => by omega, fun _ => ⟨fun _ => ⟨0, m', a1.up (by decide), Or.inl rfl, rfl⟩, fun z => absurd rfl z⟩⟩⟩), a2, a3, cl_Mo_body (b_Mo_body ⟨fun z => by omega, fun _ => ⟨fun z => by omega, fun _ => ⟨fun _ => ⟨f, N, ?_, rfl⟩, fun z => absurd rfl z⟩⟩⟩), hM.2.2.2.2.1, fun _ _ _ _ => rfl⟩
      rw [ex1]
      exact a4
  · rcases dd_one (A := 13) (k := 16 + 5) (lo := 0) (hi := 39) (x := x) hT hC hM hn hn2 (by omega) (by decide) (by decide) with ⟨m', N', a1, a2, a3, a4, ⟨a5, a6, a7, a8, a9⟩, a10, a11, a12, a13⟩ | ⟨f, m', f0, a1, a2, a3, a4⟩
    · refine Or.inl ⟨_, m', N', cl_Rd_deed (b_Rd_deed ⟨fun z => by omega, fun _ => ⟨fun z => by omega, fun _ => ⟨fun z => by omega, fun _ => ⟨fun _ => ⟨1, m', a1.up (by decide), Or.inr rfl, rfl⟩, fun z => absurd rfl z⟩⟩⟩⟩), cl_Mo_body (b_Mo_body ⟨fun z => by omega, fun _ => ⟨fun z => by omega, fun _ => ⟨fun z => by omega, fun _ => ⟨fun _ => ⟨0, N', ?_, rfl⟩, fun z => absurd rfl z⟩⟩⟩⟩), a3, a4, ⟨a5, a6, a7, by omega, by omega, fun z => by omega⟩, a10, fun a b y1 y2 => a11 a b y1 (by omega), a12, a13⟩
      rw [ex1]
      exact a2
    · refine Or.inr ⟨f, q, m', N, f0, cl_Rd_deed (b_Rd_deed ⟨fun z => by omega, fun _ => ⟨fun z => by omega, fun _ => ⟨fun z => by omega, fun _ => ⟨fun _ => ⟨0, m', a1.up (by decide), Or.inl rfl, rfl⟩, fun z => absurd rfl z⟩⟩⟩⟩), a2, a3, cl_Mo_body (b_Mo_body ⟨fun z => by omega, fun _ => ⟨fun z => by omega, fun _ => ⟨fun z => by omega, fun _ => ⟨fun _ => ⟨f, N, ?_, rfl⟩, fun z => absurd rfl z⟩⟩⟩⟩), hM.2.2.2.2.1, fun _ _ _ _ => rfl⟩
      rw [ex1]
      exact a4
  · rcases dd_two (A := 12) (k := 16 + 6) (hi := 3) (hi2 := 7) (x := x) (i := 15) (W := 31) (wd := [116, 117, 114, 110]) hT hC hM hn hn2 (by omega) (by decide) (by decide) (by decide) rfl rfl with ⟨q', m1, m', N', a1, a2, a3, a4, a5, ⟨a6, a7, a8, a9, a10, a11⟩, a12, a13, a14, a15⟩ | ⟨f, p, m', N', f0, a1, a2, a3, a4, a5, a6⟩
    · exact Or.inl ⟨q', m', N', cl_Rd_deed (b_Rd_deed ⟨fun z => by omega, fun _ => ⟨fun z => by omega, fun _ => ⟨fun z => by omega, fun _ => ⟨fun z => by omega, fun _ => ⟨fun _ => ⟨1, m1, a1.up (by decide), fun z => absurd z (by decide), fun _ => ⟨1, m', a2.up (by decide), fun z => absurd z (by decide), fun _ => rfl⟩⟩, fun z => absurd rfl z⟩⟩⟩⟩⟩), cl_Mo_body (b_Mo_body ⟨fun z => by omega, fun _ => ⟨fun z => by omega, fun _ => ⟨fun z => by omega, fun _ => ⟨fun z => by omega, fun _ => ⟨fun _ => ⟨_, _, c_Mo_w4 (by decide), 0, N', a3, rfl⟩, fun z => absurd rfl z⟩⟩⟩⟩⟩), a4, a5, ⟨a6, a7, a8, a9, by omega, fun _ => a11⟩, a12, a13, a14, a15⟩
    · refine Or.inr ⟨f, p, m', N', f0, ?_, a2, a3, cl_Mo_body (b_Mo_body ⟨fun z => by omega, fun _ => ⟨fun z => by omega, fun _ => ⟨fun z => by omega, fun _ => ⟨fun z => by omega, fun _ => ⟨fun _ => ⟨_, _, c_Mo_w4 (by decide), f, N', a4, rfl⟩, fun z => absurd rfl z⟩⟩⟩⟩⟩), a5, a6⟩
      rcases a1 with b1 | ⟨m1, b1, b2⟩
      · exact cl_Rd_deed (b_Rd_deed ⟨fun z => by omega, fun _ => ⟨fun z => by omega, fun _ => ⟨fun z => by omega, fun _ => ⟨fun z => by omega, fun _ => ⟨fun _ => ⟨0, m', b1.up (by decide), fun _ => rfl, fun z => absurd rfl z⟩, fun z => absurd rfl z⟩⟩⟩⟩⟩)
      · exact cl_Rd_deed (b_Rd_deed ⟨fun z => by omega, fun _ => ⟨fun z => by omega, fun _ => ⟨fun z => by omega, fun _ => ⟨fun z => by omega, fun _ => ⟨fun _ => ⟨1, m1, b1.up (by decide), fun z => absurd z (by decide), fun _ => ⟨0, m', b2.up (by decide), fun _ => rfl, fun z => absurd rfl z⟩⟩, fun z => absurd rfl z⟩⟩⟩⟩⟩)
  · rcases dd_two (A := 12) (k := 16 + 7) (hi := 3) (hi2 := 4) (x := x) (i := 16) (W := 32) (wd := [98, 121]) hT hC hM hn hn2 (by omega) (by decide) (by decide) (by decide) rfl rfl with ⟨q', m1, m', N', a1, a2, a3, a4, a5, ⟨a6, a7, a8, a9, a10, a11⟩, a12, a13, a14, a15⟩ | ⟨f, p, m', N', f0, a1, a2, a3, a4, a5, a6⟩
    · exact Or.inl ⟨q', m', N', cl_Rd_deed (b_Rd_deed ⟨fun z => by omega, fun _ => ⟨fun z => by omega, fun _ => ⟨fun z => by omega, fun _ => ⟨fun z => by omega, fun _ => ⟨fun z => by omega, fun _ => ⟨fun _ => ⟨1, m1, a1.up (by decide), fun z => absurd z (by decide), fun _ => ⟨1, m', a2.up (by decide), fun z => absurd z (by decide), fun _ => rfl⟩⟩, fun z => absurd rfl z⟩⟩⟩⟩⟩⟩), cl_Mo_body (b_Mo_body ⟨fun z => by omega, fun _ => ⟨fun z => by omega, fun _ => ⟨fun z => by omega, fun _ => ⟨fun z => by omega, fun _ => ⟨fun z => by omega, fun _ => ⟨fun _ => ⟨_, _, c_Mo_w2 (by decide), 0, N', a3, rfl⟩, fun z => absurd rfl z⟩⟩⟩⟩⟩⟩), a4, a5, ⟨a6, a7, a8, a9, by omega, fun _ => a11⟩, a12, a13, a14, a15⟩
    · refine Or.inr ⟨f, p, m', N', f0, ?_, a2, a3, cl_Mo_body (b_Mo_body ⟨fun z => by omega, fun _ => ⟨fun z => by omega, fun _ => ⟨fun z => by omega, fun _ => ⟨fun z => by omega, fun _ => ⟨fun z => by omega, fun _ => ⟨fun _ => ⟨_, _, c_Mo_w2 (by decide), f, N', a4, rfl⟩, fun z => absurd rfl z⟩⟩⟩⟩⟩⟩), a5, a6⟩
      rcases a1 with b1 | ⟨m1, b1, b2⟩
      · exact cl_Rd_deed (b_Rd_deed ⟨fun z => by omega, fun _ => ⟨fun z => by omega, fun _ => ⟨fun z => by omega, fun _ => ⟨fun z => by omega, fun _ => ⟨fun z => by omega, fun _ => ⟨fun _ => ⟨0, m', b1.up (by decide), fun _ => rfl, fun z => absurd rfl z⟩, fun z => absurd rfl z⟩⟩⟩⟩⟩⟩)
      · exact cl_Rd_deed (b_Rd_deed ⟨fun z => by omega, fun _ => ⟨fun z => by omega, fun _ => ⟨fun z => by omega, fun _ => ⟨fun z => by omega, fun _ => ⟨fun z => by omega, fun _ => ⟨fun _ => ⟨1, m1, b1.up (by decide), fun z => absurd z (by decide), fun _ => ⟨0, m', b2.up (by decide), fun _ => rfl, fun z => absurd rfl z⟩⟩, fun z => absurd rfl z⟩⟩⟩⟩⟩⟩)
  · rcases dd_one (A := 13) (k := 16 + 8) (lo := 1) (hi := 60) (x := x) hT hC hM hn hn2 (by omega) (by decide) (by decide) with ⟨m', N', a1, a2, a3, a4, ⟨a5, a6, a7, a8, a9⟩, a10, a11, a12, a13⟩ | ⟨f, m', f0, a1, a2, a3, a4⟩
    · refine Or.inl ⟨_, m', N', cl_Rd_deed (b_Rd_deed ⟨fun z => by omega, fun _ => ⟨fun z => by omega, fun _ => ⟨fun z => by omega, fun _ => ⟨fun z => by omega, fun _ => ⟨fun z => by omega, fun _ => ⟨fun z => by omega, fun _ => ⟨fun _ => ⟨1, m', a1.up (by decide), Or.inr rfl, rfl⟩, fun z => absurd rfl z⟩⟩⟩⟩⟩⟩⟩), cl_Mo_body (b_Mo_body ⟨fun z => by omega, fun _ => ⟨fun z => by omega, fun _ => ⟨fun z => by omega, fun _ => ⟨fun z => by omega, fun _ => ⟨fun z => by omega, fun _ => ⟨fun z => by omega, fun _ => ⟨fun _ => ⟨0, N', ?_, rfl⟩, fun z => absurd rfl z⟩⟩⟩⟩⟩⟩⟩), a3, a4, ⟨a5, a6, a7, by omega, by omega, fun z => by omega⟩, a10, fun a b y1 y2 => a11 a b y1 (by omega), a12, a13⟩
      rw [ex1]
      exact a2
    · refine Or.inr ⟨f, q, m', N, f0, cl_Rd_deed (b_Rd_deed ⟨fun z => by omega, fun _ => ⟨fun z => by omega, fun _ => ⟨fun z => by omega, fun _ => ⟨fun z => by omega, fun _ => ⟨fun z => by omega, fun _ => ⟨fun z => by omega, fun _ => ⟨fun _ => ⟨0, m', a1.up (by decide), Or.inl rfl, rfl⟩, fun z => absurd rfl z⟩⟩⟩⟩⟩⟩⟩), a2, a3, cl_Mo_body (b_Mo_body ⟨fun z => by omega, fun _ => ⟨fun z => by omega, fun _ => ⟨fun z => by omega, fun _ => ⟨fun z => by omega, fun _ => ⟨fun z => by omega, fun _ => ⟨fun z => by omega, fun _ => ⟨fun _ => ⟨f, N, ?_, rfl⟩, fun z => absurd rfl z⟩⟩⟩⟩⟩⟩⟩), hM.2.2.2.2.1, fun _ _ _ _ => rfl⟩
      rw [ex1]
      exact a4
