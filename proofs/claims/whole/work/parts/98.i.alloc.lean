/-! ===== new objects ===== -/
theorem hT_A (h : AH) (t n b : Int) : h_T (h_A h t n) b = if b = h.1 then t else h_T h b := rfl
theorem hN_A (h : AH) (t n b : Int) : h_N (h_A h t n) b = if b = h.1 then n else h_N h b := rfl
theorem hV_A (h : AH) (t n b i : Int) : h_V (h_A h t n) b i = if b = h.1 then 0 else h_V h b i := rfl
theorem hx_A (h : AH) (t n : Int) : (h_A h t n).1 = h.1 + 1 := rfl
theorem hx_S1 (h : AH) (a i v : Int) : (h_S h a i v).1 = h.1 := rfl
theorem na_pos {h : AH} {t n mx : Int} (n0 : 0 ≤ n) (n1 : n ≤ mx) (n2 : n < 2147483648) : n_a h t n mx = some (h_A h t n) := by
  unfold n_a
  rw [nmi (by omega) n2, if_pos ⟨n0, n1⟩]
/-- one more array, and a pointer to it -/
theorem al_1 {h : AH} {o ot k t n : Int} (ho : h_T h o = ot) (ol : o < h.1) (n0 : 0 ≤ n) (n2 : n < 2147483648) {α : Type} (f : AH → Option α) : ((some (h_x h)).bind fun x => (n_a h t n n).bind fun h1 => (s_f h1 ot o k x).bind f) = f (h_S (h_A h t n) o k h.1) := by
  rw [Option.bind_some, na_pos n0 (Int.le_refl n) n2, Option.bind_some, sf_pos (by rw [hT_A, if_neg (by omega)]; exact ho), Option.bind_some]
  rfl
/-- what a making of one array leaves -/
def Al (o k t n : Int) (h h' : AH) : Prop := h'.1 = h.1 + 1 ∧ (∀ b, h_T h' b = if b = h.1 then t else h_T h b) ∧ (∀ b, h_N h' b = if b = h.1 then n else h_N h b) ∧ ∀ b i, h_V h' b i = if b = o ∧ i = k then h.1 else if b = h.1 then 0 else h_V h b i
theorem al_2 (h : AH) (o k t n : Int) : Al o k t n h (h_S (h_A h t n) o k h.1) := ⟨rfl, fun _ => rfl, fun _ => rfl, fun _ _ => rfl⟩
theorem t_init {t : Int} {h : AH} (e : h.1 = t + 1) (k : h_T h t = 8) : ∃ h', f_T_init t h = some (0, h') ∧ h'.1 = t + 5 ∧ TS t h' ∧ (∀ b, b ≤ t → h_T h' b = h_T h b ∧ h_N h' b = h_N h b) ∧ (∀ b i, b ≤ t → (b = t → 4 ≤ i) → h_V h' b i = h_V h b i) ∧ (∀ b i, t + 1 ≤ b → b ≤ t + 4 → h_V h' b i = 0) := by
  unfold f_T_init
  rw [ck_pos k, al_1 k (by omega) (by decide) (by decide)]
  obtain ⟨x1, t1, n1, v1⟩ := al_2 h t 0 21 5
  generalize h_S (h_A h 21 5) t 0 h.1 = h1 at *
  rw [al_1 (by rw [t1, if_neg (by omega)]; exact k) (by omega) (by decide) (by decide)]
  obtain ⟨x2, t2, n2, v2⟩ := al_2 h1 t 1 20 5
  generalize h_S (h_A h1 20 5) t 1 h1.1 = h2 at *
  rw [al_1 (by rw [t2, if_neg (by omega), t1, if_neg (by omega)]; exact k) (by omega) (by decide) (by decide)]
  obtain ⟨x3, t3, n3, v3⟩ := al_2 h2 t 2 20 5
  generalize h_S (h_A h2 20 5) t 2 h2.1 = h3 at *
  rw [al_1 (by rw [t3, if_neg (by omega), t2, if_neg (by omega), t1, if_neg (by omega)]; exact k) (by omega) (by decide) (by decide)]
  obtain ⟨x4, t4, n4, v4⟩ := al_2 h3 t 3 20 5
  generalize h_S (h_A h3 20 5) t 3 h3.1 = h4 at *
  have T : ∀ b, h_T h4 b = if b = t + 4 then 20 else if b = t + 3 then 20 else if b = t + 2 then 20 else if b = t + 1 then 21 else h_T h b := fun b => by
    rw [t4, t3, t2, t1, x3, x2, x1, e]
    simp only [Int.add_assoc]; rfl
  have N : ∀ b, h_N h4 b = if b = t + 4 then 5 else if b = t + 3 then 5 else if b = t + 2 then 5 else if b = t + 1 then 5 else h_N h b := fun b => by
    rw [n4, n3, n2, n1, x3, x2, x1, e]
    simp only [Int.add_assoc]; rfl
  have V : ∀ b i, h_V h4 b i = if b = t ∧ i = 3 then t + 4 else if b = t + 4 then 0 else if b = t ∧ i = 2 then t + 3 else if b = t + 3 then 0 else if b = t ∧ i = 1 then t + 2 else if b = t + 2 then 0 else if b = t ∧ i = 0 then t + 1 else if b = t + 1 then 0 else h_V h b i := fun b i => by
    rw [v4, v3, v2, v1, x3, x2, x1, e]
    simp only [Int.add_assoc]; rfl
  refine ⟨h4, rfl, by omega, ⟨?_, ⟨?_, ?_, ?_, ?_⟩, ⟨?_, ?_⟩, ⟨?_, ?_⟩, ⟨?_, ?_⟩, ⟨?_, ?_⟩⟩, fun b hb => ⟨?_, ?_⟩, fun b i hb hi => ?_, fun b i b0 b1 => ?_⟩
  · rw [T, if_neg (by omega), if_neg (by omega), if_neg (by omega), if_neg (by omega)]; exact k
  · rw [V, if_neg (by omega), if_neg (by omega), if_neg (by omega), if_neg (by omega), if_neg (by omega), if_neg (by omega), if_pos ⟨rfl, rfl⟩]
  · rw [V, if_neg (by omega), if_neg (by omega), if_neg (by omega), if_neg (by omega), if_pos ⟨rfl, rfl⟩]
  · rw [V, if_neg (by omega), if_neg (by omega), if_pos ⟨rfl, rfl⟩]
  · rw [V, if_pos ⟨rfl, rfl⟩]
  · rw [T, if_neg (by omega), if_neg (by omega), if_neg (by omega), if_pos rfl]
  · rw [N, if_neg (by omega), if_neg (by omega), if_neg (by omega), if_pos rfl]
  · rw [T, if_neg (by omega), if_neg (by omega), if_pos rfl]
  · rw [N, if_neg (by omega), if_neg (by omega), if_pos rfl]
  · rw [T, if_neg (by omega), if_pos rfl]
  · rw [N, if_neg (by omega), if_pos rfl]
  · rw [T, if_pos rfl]
  · rw [N, if_pos rfl]
  · rw [T, if_neg (by omega), if_neg (by omega), if_neg (by omega), if_neg (by omega)]
  · rw [N, if_neg (by omega), if_neg (by omega), if_neg (by omega), if_neg (by omega)]
  · rw [V, if_neg (by omega), if_neg (by omega), if_neg (by omega), if_neg (by omega), if_neg (by omega), if_neg (by omega), if_neg (by omega), if_neg (by omega)]
  · rw [V, if_neg (by omega)]
    by_cases c4 : b = t + 4
    · rw [if_pos c4]
    · rw [if_neg c4, if_neg (by omega)]
      by_cases c3 : b = t + 3
      · rw [if_pos c3]
      · rw [if_neg c3, if_neg (by omega)]
        by_cases c2 : b = t + 2
        · rw [if_pos c2]
        · rw [if_neg c2, if_neg (by omega), if_pos (by omega)]
/-- an array is filled -/
theorem j_fill {a v n : Int} {h : AH} (ht : h_T h a = 20) (hn : h_N h a = n) (n0 : 0 ≤ n) (n1 : n ≤ 1000) : ∃ h', f_J7_fill_53178 a v h = some (0, h') ∧ Ag (fun b i => b = a ∧ 0 ≤ i ∧ i < n) h h' ∧ ∀ i, 0 ≤ i → i < n → h_V h' a i = v := by
  unfold f_J7_fill_53178
  rw [an_pos ht, Option.bind_some, hn]
  refine for1 (F := F_J7_fill_53178_5 a v n) (fun o => ∃ h', o = some (0, h') ∧ Ag (fun b i => b = a ∧ 0 ≤ i ∧ i < n) h h' ∧ ∀ i, 0 ≤ i → i < n → h_V h' a i = v) (fun k h' => Ag (fun b i => b = a ∧ 0 ≤ i ∧ i < n) h h' ∧ ∀ i, 0 ≤ i → i < k → h_V h' a i = v) (a := 0) (n := n) n0 (by omega) ⟨Ag.rf, fun i i0 i1 => by omega⟩ ?_ ?_
  · intro kf k h1 k0 k1 ⟨G, N⟩ ih
    unfold F_J7_fill_53178_5
    rw [nmi (z := n) (by omega) (by omega), nmi (z := k) (by omega) (by omega), if_neg (by omega), as_pos (by rw [G.2.1]; exact ht) (by rw [G.2.2.1]; exact hn) (by omega) k0 k1, Option.bind_some]
    refine ih _ ⟨G.st ⟨rfl, k0, k1⟩, fun i i0 i1 => ?_⟩
    rw [hV_eq]
    by_cases c : i = k
    · rw [if_pos c]
    · rw [if_neg c]; exact N i i0 (by omega)
  · intro kf h1 ⟨G, N⟩
    unfold F_J7_fill_53178_5
    rw [if_pos (Int.le_refl _)]
    exact ⟨h1, rfl, G, N⟩
theorem j_fillL {a v n : Int} {h : AH} (ht : h_T h a = 21) (hn : h_N h a = n) (n0 : 0 ≤ n) (n1 : n ≤ 1000) : ∃ h', f_J7_fill_d0a16 a v h = some (0, h') ∧ Ag (fun b i => b = a ∧ 0 ≤ i ∧ i < n) h h' ∧ ∀ i, 0 ≤ i → i < n → h_V h' a i = v := by
  unfold f_J7_fill_d0a16
  rw [an_pos ht, Option.bind_some, hn]
  refine for1 (F := F_J7_fill_d0a16_6 a v n) (fun o => ∃ h', o = some (0, h') ∧ Ag (fun b i => b = a ∧ 0 ≤ i ∧ i < n) h h' ∧ ∀ i, 0 ≤ i → i < n → h_V h' a i = v) (fun k h' => Ag (fun b i => b = a ∧ 0 ≤ i ∧ i < n) h h' ∧ ∀ i, 0 ≤ i → i < k → h_V h' a i = v) (a := 0) (n := n) n0 (by omega) ⟨Ag.rf, fun i i0 i1 => by omega⟩ ?_ ?_
  · intro kf k h1 k0 k1 ⟨G, N⟩ ih
    unfold F_J7_fill_d0a16_6
    rw [nmi (z := n) (by omega) (by omega), nmi (z := k) (by omega) (by omega), if_neg (by omega), as_pos (by rw [G.2.1]; exact ht) (by rw [G.2.2.1]; exact hn) (by omega) k0 k1, Option.bind_some]
    refine ih _ ⟨G.st ⟨rfl, k0, k1⟩, fun i i0 i1 => ?_⟩
    rw [hV_eq]
    by_cases c : i = k
    · rw [if_pos c]
    · rw [if_neg c]; exact N i i0 (by omega)
  · intro kf h1 ⟨G, N⟩
    unfold F_J7_fill_d0a16_6
    rw [if_pos (Int.le_refl _)]
    exact ⟨h1, rfl, G, N⟩
theorem s_init {a : Int} {h : AH} (e : h.1 = a + 1) (k : h_T h a = 6) : ∃ h', f_S_init a h = some (0, h') ∧ h'.1 = a + 12 ∧ SS a h' ∧ (∀ b, b ≤ a → h_T h' b = h_T h b ∧ h_N h' b = h_N h b) ∧ (∀ b i, b ≤ a → (b = a → 7 ≤ i) → h_V h' b i = h_V h b i) ∧ (∀ b i, a + 1 ≤ b → b ≤ a + 11 → (b = a + 1 → 4 ≤ i) → b ≠ a + 7 → b ≠ a + 11 → h_V h' b i = 0) ∧ (∀ i, 0 ≤ i → i < 60 → h_V h' (a + 7) i = -1) ∧ (∀ i, 0 ≤ i → i < 15 → h_V h' (a + 11) i = -2) := by
  unfold f_S_init
  have T1 : h_T (h_A h 8 0) (a + 1) = 8 := by rw [hT_A, if_pos (by omega)]
  obtain ⟨g0, e0, x0, S0, t0, v0, z0⟩ := t_init (t := a + 1) (h := h_A h 8 0) (by rw [hx_A, e]) T1
  have k0 : h_T g0 a = 6 := by rw [(t0 a (by omega)).1, hT_A, if_neg (by omega)]; exact k
  rw [ck_pos k, Option.bind_some, Option.bind_some, show h_x h = a + 1 from e, ck_pos T1, e0, bd_some, sf_pos k0, Option.bind_some]
  have V0 : ∀ b i, h_V (h_S g0 a 0 (a + 1)) b i = if b = a ∧ i = 0 then a + 1 else h_V g0 b i := fun b i => rfl
  have X0 : (h_S g0 a 0 (a + 1)).1 = a + 6 := by rw [hx_S1]; omega
  have TT0 : ∀ b, h_T (h_S g0 a 0 (a + 1)) b = h_T g0 b := fun b => rfl
  have NN0 : ∀ b, h_N (h_S g0 a 0 (a + 1)) b = h_N g0 b := fun b => rfl
  generalize h_S g0 a 0 (a + 1) = h0 at *
  rw [al_1 (by rw [TT0]; exact k0) (by omega) (by decide) (by decide)]
  obtain ⟨y1, q1, m1, u1⟩ := al_2 h0 a 1 20 5
  generalize h_S (h_A h0 20 5) a 1 h0.1 = h1 at *
  rw [al_1 (by rw [q1, if_neg (by omega)]; rw [TT0]; exact k0) (by omega) (by decide) (by decide)]
  obtain ⟨y2, q2, m2, u2⟩ := al_2 h1 a 2 20 60
  generalize h_S (h_A h1 20 60) a 2 h1.1 = h2 at *
  rw [al_1 (by rw [q2, if_neg (by omega)]; rw [q1, if_neg (by omega)]; rw [TT0]; exact k0) (by omega) (by decide) (by decide)]
  obtain ⟨y3, q3, m3, u3⟩ := al_2 h2 a 3 20 60
  generalize h_S (h_A h2 20 60) a 3 h2.1 = h3 at *
  rw [al_1 (by rw [q3, if_neg (by omega)]; rw [q2, if_neg (by omega)]; rw [q1, if_neg (by omega)]; rw [TT0]; exact k0) (by omega) (by decide) (by decide)]
  obtain ⟨y4, q4, m4, u4⟩ := al_2 h3 a 4 21 60
  generalize h_S (h_A h3 21 60) a 4 h3.1 = h4 at *
  rw [al_1 (by rw [q4, if_neg (by omega)]; rw [q3, if_neg (by omega)]; rw [q2, if_neg (by omega)]; rw [q1, if_neg (by omega)]; rw [TT0]; exact k0) (by omega) (by decide) (by decide)]
  obtain ⟨y5, q5, m5, u5⟩ := al_2 h4 a 5 20 25
  generalize h_S (h_A h4 20 25) a 5 h4.1 = h5 at *
  rw [al_1 (by rw [q5, if_neg (by omega)]; rw [q4, if_neg (by omega)]; rw [q3, if_neg (by omega)]; rw [q2, if_neg (by omega)]; rw [q1, if_neg (by omega)]; rw [TT0]; exact k0) (by omega) (by decide) (by decide)]
  obtain ⟨y6, q6, m6, u6⟩ := al_2 h5 a 6 20 15
  generalize h_S (h_A h5 20 15) a 6 h5.1 = h6 at *
  have T : ∀ b, h_T h6 b = if b = a + 11 then 20 else if b = a + 10 then 20 else if b = a + 9 then 21 else if b = a + 8 then 20 else if b = a + 7 then 20 else if b = a + 6 then 20 else h_T g0 b := fun b => by
    rw [q6, q5, q4, q3, q2, q1, TT0, y5, y4, y3, y2, y1, X0]
    simp only [Int.add_assoc]; rfl
  have N : ∀ b, h_N h6 b = if b = a + 11 then 15 else if b = a + 10 then 25 else if b = a + 9 then 60 else if b = a + 8 then 60 else if b = a + 7 then 60 else if b = a + 6 then 5 else h_N g0 b := fun b => by
    rw [m6, m5, m4, m3, m2, m1, NN0, y5, y4, y3, y2, y1, X0]
    simp only [Int.add_assoc]; rfl
  have V : ∀ b i, h_V h6 b i = if b = a ∧ i = 6 then a + 11 else if b = a + 11 then 0 else if b = a ∧ i = 5 then a + 10 else if b = a + 10 then 0 else if b = a ∧ i = 4 then a + 9 else if b = a + 9 then 0 else if b = a ∧ i = 3 then a + 8 else if b = a + 8 then 0 else if b = a ∧ i = 2 then a + 7 else if b = a + 7 then 0 else if b = a ∧ i = 1 then a + 6 else if b = a + 6 then 0 else if b = a ∧ i = 0 then a + 1 else h_V g0 b i := fun b i => by
    rw [u6, u5, u4, u3, u2, u1, V0, y5, y4, y3, y2, y1, X0]
    simp only [Int.add_assoc]; rfl
  have X6 : h6.1 = a + 12 := by omega
  clear u1 u2 u3 u4 u5 u6 q1 q2 q3 q4 q5 q6 m1 m2 m3 m4 m5 m6 V0 TT0 NN0 y1 y2 y3 y4 y5 y6
  have S6 : SS a h6 := by
    obtain ⟨c0, ⟨c1, c2, c3, c4⟩, d1, d2, d3, d4⟩ := S0
    refine ⟨by rw [T]; (repeat first | rw [if_pos (by omega)] | rw [if_neg (by omega)]); exact k0, ⟨?_, ?_, ?_, ?_, ?_, ?_, ?_⟩, ⟨by rw [T]; (repeat first | rw [if_pos (by omega)] | rw [if_neg (by omega)]); exact c0, ⟨?_, ?_, ?_, ?_⟩, ⟨?_, ?_⟩, ⟨?_, ?_⟩, ⟨?_, ?_⟩, ⟨?_, ?_⟩⟩, ⟨?_, ?_⟩, ⟨?_, ?_⟩, ⟨?_, ?_⟩, ⟨?_, ?_⟩, ⟨?_, ?_⟩, ⟨?_, ?_⟩⟩
    · rw [V]; (repeat first | rw [if_pos (by omega)] | rw [if_neg (by omega)])
    · rw [V]; (repeat first | rw [if_pos (by omega)] | rw [if_neg (by omega)])
    · rw [V]; (repeat first | rw [if_pos (by omega)] | rw [if_neg (by omega)])
    · rw [V]; (repeat first | rw [if_pos (by omega)] | rw [if_neg (by omega)])
    · rw [V]; (repeat first | rw [if_pos (by omega)] | rw [if_neg (by omega)])
    · rw [V]; (repeat first | rw [if_pos (by omega)] | rw [if_neg (by omega)])
    · rw [V]; (repeat first | rw [if_pos (by omega)] | rw [if_neg (by omega)])
    · rw [V]; (repeat first | rw [if_pos (by omega)] | rw [if_neg (by omega)]); exact c1
    · rw [V]; (repeat first | rw [if_pos (by omega)] | rw [if_neg (by omega)]); exact c2
    · rw [V]; (repeat first | rw [if_pos (by omega)] | rw [if_neg (by omega)]); exact c3
    · rw [V]; (repeat first | rw [if_pos (by omega)] | rw [if_neg (by omega)]); exact c4
    · rw [T]; (repeat first | rw [if_pos (by omega)] | rw [if_neg (by omega)]); exact d1.1
    · rw [N]; (repeat first | rw [if_pos (by omega)] | rw [if_neg (by omega)]); exact d1.2
    · rw [T]; (repeat first | rw [if_pos (by omega)] | rw [if_neg (by omega)]); exact d2.1
    · rw [N]; (repeat first | rw [if_pos (by omega)] | rw [if_neg (by omega)]); exact d2.2
    · rw [T]; (repeat first | rw [if_pos (by omega)] | rw [if_neg (by omega)]); exact d3.1
    · rw [N]; (repeat first | rw [if_pos (by omega)] | rw [if_neg (by omega)]); exact d3.2
    · rw [T]; (repeat first | rw [if_pos (by omega)] | rw [if_neg (by omega)]); exact d4.1
    · rw [N]; (repeat first | rw [if_pos (by omega)] | rw [if_neg (by omega)]); exact d4.2
    · rw [T]; (repeat first | rw [if_pos (by omega)] | rw [if_neg (by omega)])
    · rw [N]; (repeat first | rw [if_pos (by omega)] | rw [if_neg (by omega)])
    · rw [T]; (repeat first | rw [if_pos (by omega)] | rw [if_neg (by omega)])
    · rw [N]; (repeat first | rw [if_pos (by omega)] | rw [if_neg (by omega)])
    · rw [T]; (repeat first | rw [if_pos (by omega)] | rw [if_neg (by omega)])
    · rw [N]; (repeat first | rw [if_pos (by omega)] | rw [if_neg (by omega)])
    · rw [T]; (repeat first | rw [if_pos (by omega)] | rw [if_neg (by omega)])
    · rw [N]; (repeat first | rw [if_pos (by omega)] | rw [if_neg (by omega)])
    · rw [T]; (repeat first | rw [if_pos (by omega)] | rw [if_neg (by omega)])
    · rw [N]; (repeat first | rw [if_pos (by omega)] | rw [if_neg (by omega)])
    · rw [T]; (repeat first | rw [if_pos (by omega)] | rw [if_neg (by omega)])
    · rw [N]; (repeat first | rw [if_pos (by omega)] | rw [if_neg (by omega)])
  obtain ⟨h7, e7, g7, f7⟩ := j_fill (v := -1) S6.k7.1 S6.k7.2 (by decide) (by decide)
  have S7 : SS a h7 := S6.ag g7 fun i => ⟨fun _ _ z => by omega, fun _ _ z => by omega⟩
  obtain ⟨h8, e8, g8, f8⟩ := j_fill (v := -2) S7.k11.1 S7.k11.2 (by decide) (by decide)
  have S8 : SS a h8 := S7.ag g8 fun i => ⟨fun _ _ z => by omega, fun _ _ z => by omega⟩
  rw [S6.g2, Option.bind_some, e7, bd_some, S7.g6, Option.bind_some, e8, bd_some]
  have vv : ∀ b i, b ≠ a + 7 → b ≠ a + 11 → h_V h8 b i = h_V h6 b i := fun b i n7 n11 => by
    rw [g8.2.2.2 _ _ (fun z => n11 z.1), g7.2.2.2 _ _ (fun z => n7 z.1)]
  refine ⟨h8, rfl, by rw [g8.1, g7.1]; exact X6, S8, fun b hb => ⟨?_, ?_⟩, fun b i hb hi => ?_, fun b i b0 b1 b2 b7 b11 => ?_, fun i i0 i1 => ?_, f8⟩
  · rw [g8.2.1, g7.2.1, T]; (repeat first | rw [if_pos (by omega)] | rw [if_neg (by omega)])
    rw [(t0 b (by omega)).1, hT_A, if_neg (by omega)]
  · rw [g8.2.2.1, g7.2.2.1, N]; (repeat first | rw [if_pos (by omega)] | rw [if_neg (by omega)])
    rw [(t0 b (by omega)).2, hN_A, if_neg (by omega)]
  · rw [vv b i (by omega) (by omega), V]; (repeat first | rw [if_pos (by omega)] | rw [if_neg (by omega)])
    rw [v0 b i (by omega) (by omega), hV_A, if_neg (by omega)]
  · rw [vv b i b7 b11]
    by_cases c : b ≤ a + 5
    · rw [V]; (repeat first | rw [if_pos (by omega)] | rw [if_neg (by omega)])
      by_cases d : b = a + 1
      · rw [v0 b i (by omega) (fun _ => b2 d), hV_A, if_pos (by omega)]
      · exact z0 b i (by omega) (by omega)
    · rw [V, if_neg (by omega)]
      by_cases c10 : b = a + 10
      · (repeat first | rw [if_pos (by omega)] | rw [if_neg (by omega)])
      · by_cases c9 : b = a + 9
        · (repeat first | rw [if_pos (by omega)] | rw [if_neg (by omega)])
        · by_cases c8 : b = a + 8
          · (repeat first | rw [if_pos (by omega)] | rw [if_neg (by omega)])
          · have c6 : b = a + 6 := by omega
            (repeat first | rw [if_pos (by omega)] | rw [if_neg (by omega)])
  · rw [g8.2.2.2 _ _ (fun z => by omega)]; exact f7 i i0 i1
