/-! ===== a rule: its clauses; the class reads it ===== -/
abbrev Cla : Type := List CD × Option (List CD)
def pK2 (b : Int → Int) (L : Int) (s : PR) : Int × Cla × Int × Int := if pk b L (sk b L s.2.2.2) = 26982 then ((pD b L 40 0 0 s.2.2.1 (wen b L (sk b L s.2.2.2))).1, (s.2.1, some (pD b L 40 0 0 s.2.2.1 (wen b L (sk b L s.2.2.2))).2.1), (pD b L 40 0 0 s.2.2.1 (wen b L (sk b L s.2.2.2))).2.2) else (0, (s.2.1, none), s.2.2.1, sk b L s.2.2.2)
def pK1 (b : Int → Int) (L m p : Int) : Int × Cla × Int × Int := if (pSum b L m p).1 ≠ 0 then ((pSum b L m p).1, ([], none), m, p) else pK2 b L (pSum b L m p)
def pR (b : Int → Int) (L : Int) : Nat → Int → Int → Int → Int × List Cla
  | 0, _, _, _ => (1, [])
  | n + 1, i, m, p =>
    if pk b L (sk b L p) ≠ 495623239269 then (1 + 8 * sk b L p + 0, [])
    else if 12 ≤ i then (1 + 8 * sk b L p + 4, [])
    else if (pK1 b L m (wen b L (sk b L p))).1 ≠ 0 then ((pK1 b L m (wen b L (sk b L p))).1, [])
    else if ch b L (sk b L (pK1 b L m (wen b L (sk b L p))).2.2.2) = -1 then (0, [(pK1 b L m (wen b L (sk b L p))).2.1])
    else if ch b L (sk b L (pK1 b L m (wen b L (sk b L p))).2.2.2) = 59 then ((pR b L n (i + 1) (pK1 b L m (wen b L (sk b L p))).2.2.1 (sk b L (pK1 b L m (wen b L (sk b L p))).2.2.2 + 1)).1, (pK1 b L m (wen b L (sk b L p))).2.1 :: (pR b L n (i + 1) (pK1 b L m (wen b L (sk b L p))).2.2.1 (sk b L (pK1 b L m (wen b L (sk b L p))).2.2.2 + 1)).2)
    else (1 + 8 * sk b L (pK1 b L m (wen b L (sk b L p))).2.2.2 + 0, [])
/-- a clause's codes: the class's, the Model's -/
def cc1 (c : Cla) : List CD := c.1 ++ (match c.2 with
  | none => [(15, 0)]
  | some t => t ++ [(16, 0)])
def mm1 (c : Cla) : List CD := c.1 ++ (match c.2 with
  | none => []
  | some t => t)
def ccl : List Cla → List CD
  | [] => []
  | c :: r => cc1 c ++ ccl r
def mcl : List Cla → List CD
  | [] => []
  | c :: r => mm1 c ++ mcl r
section
variable {b : Int → Int} {L m p q : Int} {cs : List CD} {h h' : AH}
theorem srv_len (h : pk b L q = 495623239269) : q + 5 ≤ wen b L q := by
  have := pk_len (b := b) (L := L) (q := q) (k := 4) h (by decide) (by decide)
  omega
theorem if_len (h : pk b L q = 26982) : q + 2 ≤ wen b L q := by
  have := pk_len (b := b) (L := L) (q := q) (k := 1) h (by decide) (by decide)
  omega
theorem mm1_cc1 (c : Cla) : ((cc1 c).length : Int) = (mm1 c).length + 1 := by
  unfold cc1 mm1
  cases c.2 <;> simp [List.length_append] <;> omega
theorem pK1_g (p0 : 0 ≤ p) (p1 : p ≤ L) (hL : L ≤ 400) (m0 : 0 ≤ m) (m1 : m ≤ 60) : 0 ≤ (pK1 b L m p).1 ∧ ((pK1 b L m p).1 = 0 → ((mm1 (pK1 b L m p).2.1).length : Int) + p ≤ (pK1 b L m p).2.2.2 ∧ (pK1 b L m p).2.2.2 ≤ L ∧ (0 ≤ (pK1 b L m p).2.2.1 ∧ (pK1 b L m p).2.2.1 ≤ 60) ∧ p ≤ (pK1 b L m p).2.2.2) := by
  have sg := pSum_g (b := b) p0 p1 hL m0 m1
  unfold pK1
  generalize pSum b L m p = s at *
  by_cases c : s.1 = 0
  · have s1 := sg.2 c
    rw [if_neg (fun z => z c)]
    have g := sk_ge (b := b) (L := L) s.2.2.2
    have ls := sk_le (b := b) s1.2.1
    unfold pK2
    by_cases d : pk b L (sk b L s.2.2.2) = 26982
    · have il := if_len d
      rw [if_pos d]
      have dg := pD_g (b := b) hL 40 0 0 s.2.2.1 (wen b L (sk b L s.2.2.2)) (by omega) (sc_le _ ls) s1.2.2.1.1 s1.2.2.1.2
      generalize pD b L 40 0 0 s.2.2.1 (wen b L (sk b L s.2.2.2)) = t at *
      refine ⟨dg.1, fun z => ?_⟩
      have d1 := dg.2 z
      refine ⟨?_, d1.2.1, d1.2.2.1, by dsimp only; omega⟩
      show (((s.2.1 ++ t.2.1 : List CD).length : Nat) : Int) + p ≤ t.2.2.2
      rw [List.length_append]; omega
    · rw [if_neg d]
      refine ⟨Int.le_refl 0, fun _ => ⟨?_, ls, s1.2.2.1, by dsimp only; omega⟩⟩
      show (((s.2.1 ++ [] : List CD).length : Nat) : Int) + p ≤ sk b L s.2.2.2
      rw [List.append_nil]; omega
  · rw [if_pos c]
    exact ⟨sg.1, fun z => absurd z c⟩
/-- a new rule -/
def CdA (r : Int) (cs : List CD) (h : AH) : Prop := h_T h r = 4 ∧ (h_T h (r + 1) = 20 ∧ h_N h (r + 1) = cs.length) ∧ (h_T h (r + 2) = 21 ∧ h_N h (r + 2) = 32) ∧ (h_V h r 0 = r + 1 ∧ h_V h r 1 = r + 2) ∧ LSq ec (h_V h (r + 1)) 0 cs
def RnW (h h' : AH) (cs : List CD) : Prop := CdA h.1 cs h' ∧ h'.1 = h.1 + 3 ∧ (∀ a, a < h.1 → h_T h' a = h_T h a ∧ h_N h' a = h_N h a) ∧ ∀ a i, a < h.1 → ¬ XRc a i → h_V h' a i = h_V h a i
theorem RnW.pre {h0 : AH} (H : RnW h h' cs) (g : Ag XRc h0 h) : RnW h0 h' cs := by
  obtain ⟨a, c, d, e⟩ := H
  rw [g.1] at a c d e
  exact ⟨a, c, fun q hq => ⟨(d q hq).1.trans (g.2.1 q), (d q hq).2.trans (g.2.2.1 q)⟩, fun q i hq n => (e q i hq n).trans (g.2.2.2 q i n)⟩
def RJ (cs : List CD) (h : AH) (o : Option (Int × AH)) (R : Int × List Cla) : Prop := ∃ h', (R.1 ≠ 0 → o = some (0, h') ∧ Ag XRc h h' ∧ h_V h' 2 4 = R.1) ∧ (R.1 = 0 → o = some (h.1, h') ∧ RnW h h' (cs ++ ccl R.2))
theorem RJ.pre {h0 : AH} {o : Option (Int × AH)} {R : Int × List Cla} (g : Ag XRc h0 h) (H : RJ cs h o R) : RJ cs h0 o R := by
  obtain ⟨h', a, c⟩ := H
  refine ⟨h', fun z => ⟨(a z).1, g.tr (a z).2.1, (a z).2.2⟩, fun z => ⟨?_, (c z).2.pre g⟩⟩
  rw [← g.1]; exact (c z).1
theorem RJ.bad {f : Int} {C : List Cla} {o : Option (Int × AH)} (n : f ≠ 0) (e : o = some (0, h')) (g : Ag XRc h h') (v : h_V h' 2 4 = f) : RJ cs h o (f, C) := ⟨h', fun _ => ⟨e, g, v⟩, fun z => absurd z n⟩
theorem c_make0 {n : Int} (K : BP h) (u : h_V h 7 2 = n) (hx : 69 ≤ h.1) (n0 : 0 ≤ n) (n1 : n < 400) : ∃ h', ((some (h_x h)).bind fun x15 => (some (h_A h 4 0)).bind fun h14 => (g_f h14 5 7 1).bind fun v16 => (g_f h14 5 7 2).bind fun v17 => bd_ (f_J7_copyOf_59c91 v16 v17 h14) fun v18 h19 => c_k h19 4 x15 <| bd_ (f_R_init x15 v18 h19) fun _ h21 => some (x15, h21)) = some (h.1, h') ∧ (h_T h' h.1 = 4 ∧ (h_T h' (h.1 + 1) = 20 ∧ h_N h' (h.1 + 1) = n) ∧ (h_T h' (h.1 + 2) = 21 ∧ h_N h' (h.1 + 2) = 32) ∧ (h_V h' h.1 0 = h.1 + 1 ∧ h_V h' h.1 1 = h.1 + 2) ∧ ∀ i, 0 ≤ i → i < n → h_V h' (h.1 + 1) i = h_V h 8 i) ∧ h'.1 = h.1 + 3 ∧ (∀ a, a < h.1 → h_T h' a = h_T h a ∧ h_N h' a = h_N h a) ∧ ∀ a i, a < h.1 → h_V h' a i = h_V h a i := by
  obtain ⟨x, T, N, V⟩ := h
  have hx' : 69 ≤ x := hx
  have nn : nm n = n := nmi (by omega) (by omega)
  have n4 : nm 400 = 400 := nmi (by decide) (by decide)
  have k7 : T 7 = 5 := K.k7
  have k8 : T 8 = 20 := K.k8.1
  have l8 : N 8 = 400 := K.k8.2
  have p17 : V 7 1 = 8 := K.p 17 rfl
  have u' : V 7 2 = n := u
  have q7 : (7 : Int) ≠ x := by omega
  have q8 : (8 : Int) ≠ x := by omega
  have q71 : (7 : Int) ≠ x + 1 := by omega
  have q81 : (8 : Int) ≠ x + 1 := by omega
  have x1 : x + 1 ≠ x := by omega
  have x2 : x + 2 ≠ x := by omega
  have x3 : x + 2 ≠ x + 1 := by omega
  have x4 : x ≠ x + 1 := by omega
  have x5 : x ≠ x + 2 := by omega
  have x6 : x + 1 ≠ x + 2 := by omega
  have e12 : x + 1 + 1 = x + 2 := by omega
  have e13 : x + 2 + 1 = x + 3 := by omega
  have l4 : n < 400 := n1
  have ne4 : n ≠ 400 := by omega
  have le4 : n ≤ 400 := by omega
  simp only [Option.bind_some, g_f, h_T, h_V, h_N, h_A, h_x, h_S, f_J7_copyOf_59c91, a_n, n_a, a_c, m_min, f_R_init, c_k, bd_, s_f, if_neg q7, k7, if_true, p17, u', if_neg q8, k8, l8, nn, n4, ne4, ne_eq, not_false_eq_true, if_pos, n0, le4, true_and, and_true, if_neg q81, nm_0, l4, Int.le_refl, Int.zero_add, if_neg x1, if_neg x4]
  have n32 : nm 32 = 32 := nmi (by decide) (by decide)
  have x7 : x ≠ x + 1 + 1 := by omega
  rw [n32, if_pos (by decide), Option.bind_some]
  have tt : (if x = x + 1 + 1 then (21 : Int) else if x = x + 1 then 20 else if x = x then 4 else T x) = 4 := by rw [if_neg x7, if_neg x4, if_pos rfl]
  rw [if_pos tt, Option.bind_some, if_pos tt, Option.bind_some, Option.bind_some]
  refine ⟨_, rfl, ⟨?_, ⟨?_, ?_⟩, ⟨?_, ?_⟩, ⟨?_, ?_⟩, fun i i0 i1 => ?_⟩, ?_, fun a ha => ⟨?_, ?_⟩, fun a i ha => ?_⟩ <;> dsimp only
  · rw [if_neg x7, if_neg x4, if_pos rfl]
  · rw [if_neg (by omega), if_pos rfl]
  · rw [if_neg (by omega), if_pos rfl]
  · rw [if_pos (by omega)]
  · rw [if_pos (by omega)]
  · rw [if_pos ⟨rfl, rfl⟩]
  · rw [if_neg (by omega), if_pos ⟨rfl, rfl⟩]; omega
  · rw [if_neg (by omega), if_neg (by omega), if_neg (by omega), if_pos ⟨rfl, i0, i1⟩, Int.sub_zero]
  · omega
  · rw [if_neg (by omega), if_neg (by omega), if_neg (by omega)]
  · rw [if_neg (by omega), if_neg (by omega), if_neg (by omega)]
  · rw [if_neg (by omega), if_neg (by omega), if_neg (by omega), if_neg (by omega), if_neg (by omega), if_neg (by omega)]
theorem c_make (H : CQ L b cs m p h) (hx : 69 ≤ h.1) (hl : cs.length < 400) : ∃ h', ((some (h_x h)).bind fun x15 => (some (h_A h 4 0)).bind fun h14 => (g_f h14 5 7 1).bind fun v16 => (g_f h14 5 7 2).bind fun v17 => bd_ (f_J7_copyOf_59c91 v16 v17 h14) fun v18 h19 => c_k h19 4 x15 <| bd_ (f_R_init x15 v18 h19) fun _ h21 => some (x15, h21)) = some (h.1, h') ∧ RnW h h' cs := by
  obtain ⟨h', e, ⟨a1, a2, a3, a4, a5⟩, x, y, z⟩ := c_make0 H.1.1 H.2.1 hx (by omega) (by omega)
  exact ⟨h', e, ⟨a1, a2, a3, a4, LSq.cg _ _ H.2.2.2 fun i i0 i1 => a5 i i0 (by omega)⟩, x, y, fun a i ha _ => z a i ha⟩
end
