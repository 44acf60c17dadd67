/-! ===== slips: the Model's seeking, whole ===== -/
section
variable {n : Nat} {g : Int → Int} {fx : Int → Bool} {t : Int → Int} {m : Int × Int × Int × (Int → Int)} {h : AH}
theorem m_nextInc (hn : n ≤ 5) (H : MK n g fx h) {s : Nat} (hs : s < n) (f : fx s = false) (hv : -3 ≤ h_V h 59 s ∧ h_V h 59 s < 3) (hh : ∀ i : Int, s < i → i < n → h_V h 59 i = hif fx i) : ∃ h', f_M_nextTens 46 h = some (1, h') ∧ h_V h' 59 s = h_V h 59 s + 1 ∧ (∀ i : Int, s < i → i < n → h_V h' 59 i = lwf fx i) ∧ Ag (fun a i => a = 59 ∧ s ≤ i) h h' := by
  obtain ⟨h1, e1, q1, g1⟩ := nt_dn (s := (s : Int)) (by omega) (n - 1 - s) (1000000 - (n - 1 - s)) h (by omega) H (fun i i0 i1 => hh i i0 (by omega))
  have H1 := H.x9 (g1.mono fun a i z => by unfold X9; omega)
  have es : h_V h1 59 s = h_V h 59 s := g1.2.2.2 _ _ (by omega)
  refine ⟨h_S h1 59 s (h_V h1 59 s + 1), ?_, ?_, fun i i0 i1 => ?_, (g1.mono fun a i z => ⟨z.1, by omega⟩).st ⟨rfl, Int.le_refl _⟩⟩
  · unfold f_M_nextTens
    rw [gS H.1, Option.bind_some, H.n2, Option.bind_some, Option.bind_some]
    show it_ F9n fu_ ((n : Int) - 1, h) = _
    rw [show (s : Int) + ((n - 1 - s : Nat) : Int) = (n : Int) - 1 by omega, show n - 1 - s + (1000000 - (n - 1 - s)) = fu_ by unfold fu_; omega] at e1
    rw [e1, show 1000000 - (n - 1 - s) = (1000000 - (n - 1 - s) - 1) + 1 by omega, it_un, nt_st (by omega) (by omega) H1 _ (by omega), f, if_neg (by decide), if_neg (by omega)]
  · rw [hV_eq, if_pos rfl, es]
  · rw [hV_eq, if_neg (by omega)]; exact q1 i i0 (by omega)
theorem m_nextEnd (hn : n ≤ 5) (H : MK n g fx h) (hh : ∀ i : Int, 0 ≤ i → i < n → h_V h 59 i = hif fx i) : ∃ h', f_M_nextTens 46 h = some (0, h') ∧ Ag (fun a _ => a = 59) h h' := by
  obtain ⟨h1, e1, q1, g1⟩ := nt_dn (s := -1) (by omega) n (1000000 - n) h (by omega) H (fun i i0 i1 => hh i (by omega) (by omega))
  refine ⟨h1, ?_, g1.mono fun a i z => z.1⟩
  unfold f_M_nextTens
  rw [gS H.1, Option.bind_some, H.n2, Option.bind_some, Option.bind_some]
  show it_ F9n fu_ ((n : Int) - 1, h) = _
  rw [show (-1 : Int) + (n : Int) = (n : Int) - 1 by omega, show n + (1000000 - n) = fu_ by unfold fu_; omega] at e1
  rw [e1, show 1000000 - n = (1000000 - n - 1) + 1 by omega, it_un]
  unfold F9n F_M_nextTens_9
  dsimp only
  rw [if_pos (by decide +kernel), cb_0]
def F52 : (Int × AH → Option (Int × AH)) → Int × AH → Option (Int × AH) := fun k q => F_M_seeks_52 46 (fun a0 a1 => k (a0, a1)) q.1 q.2
def cnt7 (fx : Int → Bool) : Nat → Nat → Nat
  | 0, _ => 1
  | j + 1, s => (if fx s = true then 1 else 7) * cnt7 fx j (s + 1)
theorem cnt7_b : ∀ j s : Nat, 1 ≤ cnt7 fx j s ∧ cnt7 fx j s ≤ 7 ^ j
  | 0, _ => ⟨Nat.le_refl 1, Nat.le_refl 1⟩
  | j + 1, s => by
    obtain ⟨a, b⟩ := cnt7_b j (s + 1)
    show 1 ≤ (if fx s = true then 1 else 7) * cnt7 fx j (s + 1) ∧ (if fx s = true then 1 else 7) * cnt7 fx j (s + 1) ≤ 7 ^ j * 7
    split <;> omega
/-- one station's tens, from below up -/
theorem sk_Q (hn : n ≤ 5) {s : Nat} (hs : s < n) {c : Nat} {G : (Int → Int) → (Int × Int × Int × (Int → Int)) → Int × Int × Int × (Int → Int)} {t : Int → Int}
    (IH : ∀ (e : Nat) (t : Int → Int) (m : Int × Int × Int × (Int → Int)) (h : AH), MK n g fx h → (∀ i : Int, 0 ≤ i → i < (s + 1 : Nat) → h_V h 59 i = t i) → (∀ i : Int, (s + 1 : Nat) ≤ i → i < n → h_V h 59 i = lwf fx i) → (∀ i : Int, 0 ≤ i → i < (s + 1 : Nat) → (-3 ≤ t i ∧ t i ≤ 3) ∧ (fx i = true → t i = 0)) → MSt n m h → MB m → ∃ h', it_ F52 (c + e) (1, h) = f_M_seeks_150 (fun a0 a1 => it_ F52 e (a0, a1)) 46 h' ∧ (∀ i : Int, (s + 1 : Nat) ≤ i → i < n → h_V h' 59 i = hif fx i) ∧ MSt n (G t m) h' ∧ MB (G t m) ∧ Ag (fun a i => X8 a i ∨ (a = 59 ∧ (s + 1 : Nat) ≤ i)) h h')
    (hl : ∀ i : Int, 0 ≤ i → i < s → (-3 ≤ t i ∧ t i ≤ 3) ∧ (fx i = true → t i = 0)) :
    ∀ (w e : Nat) (v : Int) (m : Int × Int × Int × (Int → Int)) (h : AH), v + w = hif fx s → lwf fx s ≤ v → MK n g fx h → (∀ i : Int, 0 ≤ i → i < s → h_V h 59 i = t i) → h_V h 59 s = v → (∀ i : Int, (s + 1 : Nat) ≤ i → i < n → h_V h 59 i = lwf fx i) → MSt n m h → MB m →
      ∃ h', it_ F52 ((w + 1) * c + e) (1, h) = f_M_seeks_150 (fun a0 a1 => it_ F52 e (a0, a1)) 46 h' ∧ (∀ i : Int, s ≤ i → i < n → h_V h' 59 i = hif fx i) ∧ MSt n (itn (fun v c => G (up_ t s v) c) (w + 1) v m) h' ∧ MB (itn (fun v c => G (up_ t s v) c) (w + 1) v m) ∧ Ag (fun a i => X8 a i ∨ (a = 59 ∧ s ≤ i)) h h' := by
  intro w
  induction w with
  | zero =>
    intro e v m h ev lv H hp hv hlo hS hm
    have hl1 : ∀ i : Int, 0 ≤ i → i < (s + 1 : Nat) → (-3 ≤ up_ t s v i ∧ up_ t s v i ≤ 3) ∧ (fx i = true → up_ t s v i = 0) := fun i i0 i1 => by
      rw [up_a]
      by_cases d : i = s
      · rw [if_pos d, d]
        unfold hif at ev
        unfold lwf at lv
        cases f : fx s
        · rw [f, if_neg (by decide)] at ev lv; exact ⟨by omega, fun z => by cases z⟩
        · rw [f, if_pos rfl] at ev lv; exact ⟨by omega, fun _ => by omega⟩
      · rw [if_neg d]; exact hl i i0 (by omega)
    obtain ⟨h', e', q1, q2, q3, q4⟩ := IH e (up_ t s v) m h H (fun i i0 i1 => by
      rw [up_a]
      by_cases d : i = s
      · rw [if_pos d, d]; exact hv
      · rw [if_neg d]; exact hp i i0 (by omega)) hlo hl1 hS hm
    refine ⟨h', by rw [show (0 + 1) * c + e = c + e by omega]; exact e', fun i i0 i1 => ?_, q2, q3, q4.mono fun a i z => by unfold X8 at z ⊢; omega⟩
    by_cases d : i = s
    · rw [q4.2.2.2 _ _ (by unfold X8; omega), d, hv]; omega
    · exact q1 i (by omega) i1
  | succ w ih =>
    intro e v m h ev lv H hp hv hlo hS hm
    have f : fx s = false := by
      cases f : fx s
      · rfl
      · unfold hif at ev; unfold lwf at lv; rw [f, if_pos rfl] at ev lv; omega
    have ev' : v + ((w + 1 : Nat) : Int) = 3 := by unfold hif at ev; rw [f, if_neg (by decide)] at ev; exact ev
    have lv' : -3 ≤ v := by unfold lwf at lv; rw [f, if_neg (by decide)] at lv; exact lv
    have hl1 : ∀ i : Int, 0 ≤ i → i < (s + 1 : Nat) → (-3 ≤ up_ t s v i ∧ up_ t s v i ≤ 3) ∧ (fx i = true → up_ t s v i = 0) := fun i i0 i1 => by
      rw [up_a]
      by_cases d : i = s
      · rw [if_pos d, d]; exact ⟨by omega, fun z => by rw [f] at z; cases z⟩
      · rw [if_neg d]; exact hl i i0 (by omega)
    obtain ⟨h1, e1, q1, q2, q3, q4⟩ := IH ((w + 1) * c + e) (up_ t s v) m h H (fun i i0 i1 => by
      rw [up_a]
      by_cases d : i = s
      · rw [if_pos d, d]; exact hv
      · rw [if_neg d]; exact hp i i0 (by omega)) hlo hl1 hS hm
    have H1 := H.x9 (q4.mono fun a i z => by unfold X8 at z; unfold X9; omega)
    have v1 : h_V h1 59 s = v := by rw [q4.2.2.2 _ _ (by unfold X8; omega)]; exact hv
    obtain ⟨h2, e2, r1, r2, r3⟩ := m_nextInc hn H1 hs f (by omega) (fun i i0 i1 => q1 i (by omega) i1)
    have H2 := H1.x9 (r3.mono fun a i z => by unfold X9; omega)
    obtain ⟨h', e', p1, p2, p3, p4⟩ := ih e (v + 1) (G (up_ t s v) m) h2 (by omega) (by omega) H2 (fun i i0 i1 => by rw [r3.2.2.2 _ _ (by omega), q4.2.2.2 _ _ (by unfold X8; omega)]; exact hp i i0 i1) (by rw [r1, v1]) (fun i i0 i1 => r2 i (by omega) i1) (q2.cp fun a i z => r3.2.2.2 _ _ (by omega)) q3
    refine ⟨h', ?_, p1, p2, p3, ((q4.mono fun a i z => ?_).tr (r3.mono fun a i z => ?_)).tr p4⟩
    · rw [show (w + 1 + 1) * c + e = c + ((w + 1) * c + e) by rw [Nat.add_mul (w + 1) 1 c]; omega, e1]
      unfold f_M_seeks_150
      rw [ck_pos H1.1.1, e2, bd_some]
      exact e'
    · unfold X8 at z ⊢; omega
    · unfold X8; omega
theorem sk_P (hg : GL n g) (hf5 : ∀ i : Int, n ≤ i → i < 5 → fx i = false) : ∀ (j s e : Nat) (t : Int → Int) (m : Int × Int × Int × (Int → Int)) (h : AH), s + j = n → MK n g fx h → (∀ i : Int, 0 ≤ i → i < s → h_V h 59 i = t i) → (∀ i : Int, s ≤ i → i < n → h_V h 59 i = lwf fx i) → (∀ i : Int, 0 ≤ i → i < s → (-3 ≤ t i ∧ t i ≤ 3) ∧ (fx i = true → t i = 0)) → MSt n m h → MB m → ∃ h', it_ F52 (cnt7 fx j s + e) (1, h) = f_M_seeks_150 (fun a0 a1 => it_ F52 e (a0, a1)) 46 h' ∧ (∀ i : Int, s ≤ i → i < n → h_V h' 59 i = hif fx i) ∧ MSt n (fv (stM n g fx) fx 3 j s t m) h' ∧ MB (fv (stM n g fx) fx 3 j s t m) ∧ Ag (fun a i => X8 a i ∨ (a = 59 ∧ s ≤ i)) h h' := by
  intro j
  induction j with
  | zero =>
    intro s e t m h es H hp hlo hl hS hm
    have : s = n := by omega
    subst this
    obtain ⟨h', e', S', g'⟩ := m_body hg hf5 H (fun i i0 i1 => hl i i0 i1) hp hS hm (fun a0 a1 => it_ F52 e (a0, a1))
    refine ⟨h', ?_, fun i i0 i1 => by omega, S', stM_MB hg (fun i i0 i1 => hl i i0 i1) hm, g'.mono fun a i z => Or.inl z⟩
    show it_ F52 (1 + e) (1, h) = _
    rw [show 1 + e = e + 1 by omega, it_un]
    exact e'
  | succ j ih =>
    intro s e t m h es H hp hlo hl hS hm
    have n5 := hg.1
    have IH := fun (e : Nat) (t : Int → Int) (m : Int × Int × Int × (Int → Int)) (h : AH) H hp hlo hl hS hm => ih (s + 1) e t m h (by omega) H hp hlo hl hS hm
    have hs0 := hlo s (Int.le_refl _) (by omega)
    cases f : fx s
    · obtain ⟨h', e', q⟩ := sk_Q n5 (show s < n by omega) (c := cnt7 fx j (s + 1)) (G := fun t m => fv (stM n g fx) fx 3 j (s + 1) t m) IH hl 6 e (-3) m h (by unfold hif; rw [f, if_neg (by decide)]; rfl) (by unfold lwf; rw [f, if_neg (by decide)]; decide) H hp (by rw [hs0]; unfold lwf; rw [f, if_neg (by decide)]) (fun i i0 i1 => hlo i (by omega) i1) hS hm
      refine ⟨h', ?_, ?_⟩
      · show it_ F52 ((if fx s = true then 1 else 7) * cnt7 fx j (s + 1) + e) (1, h) = _
        rw [f, if_neg (by decide)]; exact e'
      · show _ ∧ MSt n (itn (fun v c => fv (stM n g fx) fx 3 j (s + 1) (up_ t s v) c) (if fx s = true then 1 else 2 * 3 + 1) (if fx s = true then 0 else -((3 : Nat) : Int)) m) h' ∧ MB (itn (fun v c => fv (stM n g fx) fx 3 j (s + 1) (up_ t s v) c) (if fx s = true then 1 else 2 * 3 + 1) (if fx s = true then 0 else -((3 : Nat) : Int)) m) ∧ _
        rw [f, if_neg (by decide), if_neg (by decide)]; exact q
    · obtain ⟨h', e', q⟩ := sk_Q n5 (show s < n by omega) (c := cnt7 fx j (s + 1)) (G := fun t m => fv (stM n g fx) fx 3 j (s + 1) t m) IH hl 0 e 0 m h (by unfold hif; rw [f, if_pos rfl]; rfl) (by unfold lwf; rw [f, if_pos rfl]; decide) H hp (by rw [hs0]; unfold lwf; rw [f, if_pos rfl]) (fun i i0 i1 => hlo i (by omega) i1) hS hm
      refine ⟨h', ?_, ?_⟩
      · show it_ F52 ((if fx s = true then 1 else 7) * cnt7 fx j (s + 1) + e) (1, h) = _
        rw [f, if_pos rfl]; exact e'
      · show _ ∧ MSt n (itn (fun v c => fv (stM n g fx) fx 3 j (s + 1) (up_ t s v) c) (if fx s = true then 1 else 2 * 3 + 1) (if fx s = true then 0 else -((3 : Nat) : Int)) m) h' ∧ MB (itn (fun v c => fv (stM n g fx) fx 3 j (s + 1) (up_ t s v) c) (if fx s = true then 1 else 2 * 3 + 1) (if fx s = true then 0 else -((3 : Nat) : Int)) m) ∧ _
        rw [f, if_pos rfl, if_pos rfl]; exact q
def X7 (a i : Int) : Prop := a = 59 ∨ a = 60 ∨ (a = 46 ∧ 28 ≤ i ∧ i ≤ 32)
theorem X97 : ∀ a i, X9 a i → X7 a i := fun a i z => by unfold X9 at z; unfold X7; omega
theorem m_sinit (hn : n ≤ 5) : ∀ (k s e : Nat) (h : AH), s + k = n → MK n g fx h → (∀ i : Int, 0 ≤ i → i < s → h_V h 59 i = lwf fx i) → ∃ h', it_ (fun (k : Int × AH → Option (Int × AH)) (q : Int × AH) => F_M_seeks_14 46 (bz fx) (fun a0 a1 => k (a0, a1)) q.1 q.2) (k + 1 + e) ((s : Int), h) = f_M_seeks_52 46 1 h' ∧ (∀ i : Int, 0 ≤ i → i < n → h_V h' 59 i = lwf fx i) ∧ Ag (fun a _ => a = 59) h h'
  | 0, s, e, h, es, H, hp => by
    have : s = n := by omega
    subst this
    refine ⟨h, ?_, hp, Ag.rf⟩
    rw [show 0 + 1 + e = e + 1 by omega, it_un]
    unfold F_M_seeks_14
    dsimp only
    rw [gS H.1, Option.bind_some, H.n2, Option.bind_some, if_pos (Int.le_refl _)]
  | k + 1, s, e, h, es, H, hp => by
    have ga : Ag (fun a _ => a = 59) h (h_S h 59 s (lwf fx s)) := Ag.rf.st rfl
    obtain ⟨h', e', q', g'⟩ := m_sinit hn k (s + 1) e (h_S h 59 s (lwf fx s)) (by omega) (H.x9 (ga.mono fun a i z => by unfold X9; omega)) (fun i i0 i1 => by
      rw [hV_eq]
      by_cases d : i = s
      · rw [if_pos d, d]
      · rw [if_neg d]; exact hp i i0 (by omega))
    refine ⟨h', ?_, q', ga.tr g'⟩
    rw [← e']
    have st : ∀ kg : Int × AH → Option (Int × AH), F_M_seeks_14 46 (bz fx) (fun a0 a1 => kg (a0, a1)) s h = kg (((s + 1 : Nat) : Int), h_S h 59 s (lwf fx s)) := by
      intro kg
      unfold F_M_seeks_14
      rw [gS H.1, Option.bind_some, H.n2, Option.bind_some, nmi (z := (n : Int)) (by omega) (by omega), nmi (z := (s : Int)) (by omega) (by omega), if_neg (by omega), H.g59, Option.bind_some, m_isOf fx (by omega) (by omega), bd_some]
      unfold lwf
      cases f : fx s
      · rw [if_pos b01_f, H.w59 (by omega) (by omega), Option.bind_some, if_neg (by decide)]; rfl
      · rw [if_neg b01_t, H.w59 (by omega) (by omega), Option.bind_some, if_pos rfl]; rfl
    rw [show k + 1 + 1 + e = (k + 1 + e) + 1 by omega, it_un]
    exact st _
theorem mt_28 : ∀ q ∈ mt_, ¬ (28 ≤ q.2.2.2 ∧ q.2.2.2 ≤ 32) := by decide
theorem X7_np : NP X7 := fun a i z => by
  by_cases c : a = 46
  · exact Or.inr fun q hq e => mt_28 q hq (by unfold X7 at z; omega)
  · exact Or.inl c
theorem m_seeks (hg : GL n g) (hf5 : ∀ i : Int, n ≤ i → i < 5 → fx i = false) (H : MS h) (h2 : h_V h 56 2 = n) (hG : ∀ s : Int, 0 ≤ s → s < n → h_V h 58 s = g s) : ∃ h', f_M_seeks 46 (bz fx) h = some ((mF n g fx).1, h') ∧ MSt n (mF n g fx) h' ∧ Ag X7 h h' := by
  have n5 := hg.1
  have g1 : Ag X7 h (h_S h 46 28 (bz fx)) := Ag.rf.st (by unfold X7; omega)
  have g2 : Ag X7 h (h_S (h_S h 46 28 (bz fx)) 46 29 999999) := g1.st (by unfold X7; omega)
  have H1 := H.ag g1 X7_np
  have K2 : MK n g fx (h_S (h_S h 46 28 (bz fx)) 46 29 999999) := ⟨H.ag g2 X7_np, by rw [hV_ne (by decide), hV_ne (by decide)]; exact h2, by rw [hV_eq, if_neg (by decide), hV_eq, if_pos rfl], fun s s0 s1 => by rw [hV_ne (by decide), hV_ne (by decide)]; exact hG s s0 s1⟩
  obtain ⟨h3, e3, q3, g3⟩ := m_sinit n5 n 0 (1000000 - n - 1) _ (by omega) K2 (fun i i0 i1 => by omega)
  rw [show n + 1 + (1000000 - n - 1) = fu_ by unfold fu_; omega] at e3
  have K3 := K2.x9 (g3.mono fun a i z => by unfold X9; omega)
  have S3 : MSt n mI h3 := ⟨by rw [g3.2.2.2 _ _ (by omega), hV_eq, if_pos rfl]; rfl, fun z => absurd rfl z⟩
  have cb := cnt7_b (fx := fx) n 0
  have c5 : (7 : Nat) ^ n ≤ 7 ^ 5 := Nat.pow_le_pow_right (by decide) n5
  obtain ⟨h4, e4, q4, S4, B4, g4⟩ := sk_P hg hf5 n 0 (1000000 - cnt7 fx n 0) zv mI h3 (by omega) K3 (fun i i0 i1 => by omega) (fun i i0 i1 => q3 i (by omega) i1) (fun i i0 i1 => by omega) S3 ⟨by decide, fun z => absurd rfl z⟩
  rw [show cnt7 fx n 0 + (1000000 - cnt7 fx n 0) = fu_ by unfold fu_; omega] at e4
  have K4 := K3.x9 (g4.mono fun a i z => by unfold X8 at z; unfold X9; omega)
  obtain ⟨h5, e5, g5⟩ := m_nextEnd n5 K4 (fun i i0 i1 => q4 i (by omega) i1)
  have K5 := K4.x9 (g5.mono fun a i z => by unfold X9; omega)
  have S5 : MSt n (mF n g fx) h5 := S4.cp fun a i z => g5.2.2.2 _ _ (by omega)
  refine ⟨h5, ?_, S5, ((g2.tr (g3.mono fun a i z => by unfold X7; omega)).tr (g4.mono fun a i z => by unfold X8 at z; unfold X7; omega)).tr (g5.mono fun a i z => by unfold X7; omega)⟩
  unfold f_M_seeks
  rw [sf_pos H.1, Option.bind_some, sf_pos H1.1, Option.bind_some]
  refine e3.trans ?_
  refine e4.trans ?_
  unfold f_M_seeks_150
  rw [ck_pos K4.1.1, e5, bd_some]
  dsimp only
  rw [show 1000000 - cnt7 fx n 0 = (1000000 - cnt7 fx n 0 - 1) + 1 by omega, it_un]
  unfold F52 F_M_seeks_52
  dsimp only
  rw [if_pos nm_0, gf_pos K5.1.1, Option.bind_some, S5.1]
end
