/-! ===== slips: how the Model seeks ===== -/
section
variable {n : Nat} {g : Int → Int} {fx : Int → Bool} {t : Int → Int} {m : Int × Int × Int × (Int → Int)} {h : AH}
def X8 (a i : Int) : Prop := a = 60 ∨ (a = 46 ∧ 29 ≤ i ∧ i ≤ 32)
def X9 (a i : Int) : Prop := a = 59 ∨ a = 60 ∨ (a = 46 ∧ 29 ≤ i ∧ i ≤ 32)
theorem mt_29 : ∀ q ∈ mt_, ¬ (29 ≤ q.2.2.2 ∧ q.2.2.2 ≤ 32) := by decide
theorem X9_np : NP X9 := fun a i z => by
  by_cases c : a = 46
  · exact Or.inr fun q hq e => mt_29 q hq (by unfold X9 at z; omega)
  · exact Or.inl c
theorem MK.x9 {h' : AH} (H : MK n g fx h) (k : Ag X9 h h') : MK n g fx h' := ⟨H.1.ag k X9_np, by rw [k.2.2.2 _ _ (by unfold X9; omega)]; exact H.2.1, by rw [k.2.2.2 _ _ (by unfold X9; omega)]; exact H.2.2.1, fun s s0 s1 => by rw [k.2.2.2 _ _ (by unfold X9; omega)]; exact H.2.2.2 s s0 s1⟩
theorem X89 : ∀ a i, X8 a i → X9 a i := fun a i z => by unfold X8 at z; unfold X9; omega
def MSt (n : Nat) (m : Int × Int × Int × (Int → Int)) (h : AH) : Prop := h_V h 46 29 = m.1 ∧ (m.1 ≠ 999999 → h_V h 46 30 = m.2.1 ∧ h_V h 46 31 = m.2.2.1 ∧ ∀ i : Int, 0 ≤ i → i < n → h_V h 60 i = m.2.2.2 i)
def MB (m : Int × Int × Int × (Int → Int)) : Prop := (0 ≤ m.1 ∧ m.1 ≤ 999999) ∧ (m.1 ≠ 999999 → 0 ≤ m.2.1 ∧ m.2.1 ≤ 15)
theorem MSt.cp {h' : AH} (H : MSt n m h) (e : ∀ a i, (a = 60 ∨ (a = 46 ∧ 29 ≤ i ∧ i ≤ 31)) → h_V h' a i = h_V h a i) : MSt n m h' := ⟨by rw [e _ _ (by omega)]; exact H.1, fun z => ⟨by rw [e _ _ (by omega)]; exact (H.2 z).1, by rw [e _ _ (by omega)]; exact (H.2 z).2.1, fun i i0 i1 => by rw [e _ _ (by omega)]; exact (H.2 z).2.2 i i0 i1⟩⟩
theorem m_cp60 (hn : n ≤ 5) {kf : Int → AH → Option (Int × AH)} : ∀ (k s e : Nat) (h : AH), s + k = n → MK n g fx h → ∃ h', it_ (fun (k : Int × AH → Option (Int × AH)) (q : Int × AH) => F_M_seeks_119 kf 46 (fun a0 a1 => k (a0, a1)) q.1 q.2) (k + 1 + e) ((s : Int), h) = f_M_seeks_150 kf 46 h' ∧ (∀ i : Int, s ≤ i → i < n → h_V h' 60 i = h_V h 59 i) ∧ Ag (fun a i => a = 60 ∧ s ≤ i) h h'
  | 0, s, e, h, es, H => by
    refine ⟨h, ?_, fun i i0 i1 => by omega, Ag.rf⟩
    have : s = n := by omega
    subst this
    rw [show 0 + 1 + e = e + 1 by omega, it_un]
    unfold F_M_seeks_119
    dsimp only
    rw [gS H.1, Option.bind_some, H.n2, Option.bind_some, if_pos (Int.le_refl _)]
  | k + 1, s, e, h, es, H => by
    have ga : Ag (fun a i => a = 60 ∧ (s : Int) ≤ i) h (h_S h 60 s (h_V h 59 s)) := Ag.rf.st ⟨rfl, Int.le_refl _⟩
    obtain ⟨h', e', q', g'⟩ := m_cp60 hn k (s + 1) e (h_S h 60 s (h_V h 59 s)) (by omega) (H.x9 (ga.mono fun a i z => by unfold X9; omega))
    refine ⟨h', ?_, fun i i0 i1 => ?_, ga.tr (g'.mono fun a i z => by omega)⟩
    · rw [← e']
      have st : ∀ kg : Int × AH → Option (Int × AH), F_M_seeks_119 kf 46 (fun a0 a1 => kg (a0, a1)) s h = kg (((s + 1 : Nat) : Int), h_S h 60 s (h_V h 59 s)) := by
        intro kg
        unfold F_M_seeks_119
        rw [gS H.1, Option.bind_some, H.n2, Option.bind_some, nmi (z := (n : Int)) (by omega) (by omega), nmi (z := (s : Int)) (by omega) (by omega), if_neg (by omega), H.g60, Option.bind_some, H.g59, Option.bind_some, H.a59 (by omega) (by omega), Option.bind_some, H.w60 (by omega) (by omega), Option.bind_some]
        rfl
      rw [show k + 1 + 1 + e = (k + 1 + e) + 1 by omega, it_un]
      exact st _
    · by_cases d : i = s
      · rw [g'.2.2.2 _ _ (by omega), hV_eq, if_pos d, d]
      · rw [q' i (by omega) i1, hV_ne (by decide)]
theorem m_take (hn : n ≤ 5) (H : MK n g fx h) (hl : LG n fx t) (ht : ∀ i : Int, 0 ≤ i → i < n → h_V h 59 i = t i) (kf : Int → AH → Option (Int × AH)) {v : Int} : ∃ h', f_M_seeks_95 kf 46 v h = f_M_seeks_150 kf 46 h' ∧ MSt n (v, us t n, h_V h 46 32, t) h' ∧ Ag X8 h h' := by
  have g1 : Ag X8 h (h_S h 46 29 v) := Ag.rf.st (by unfold X8; omega)
  have g2 : Ag X8 h (h_S (h_S h 46 29 v) 46 30 (us t n)) := g1.st (by unfold X8; omega)
  have g3 : Ag X8 h (h_S (h_S (h_S h 46 29 v) 46 30 (us t n)) 46 31 (h_V h 46 32)) := g2.st (by unfold X8; omega)
  have H1 := H.x9 (g1.mono X89)
  have H2 := H.x9 (g2.mono X89)
  have H3 := H.x9 (g3.mono X89)
  obtain ⟨h', e', q', g'⟩ := m_cp60 (g := g) (fx := fx) hn (kf := kf) n 0 (1000000 - n - 1) _ (by omega) H3
  rw [show n + 1 + (1000000 - n - 1) = fu_ by unfold fu_; omega] at e'
  refine ⟨h', ?_, ⟨?_, fun _ => ⟨?_, ?_, fun i i0 i1 => ?_⟩⟩, g3.tr (g'.mono fun a i z => by unfold X8; omega)⟩
  · rw [← e']
    unfold f_M_seeks_95
    rw [sf_pos H.1.1, Option.bind_some, ck_pos H1.1.1, m_tensAll hn H1 hl (fun i i0 i1 => by rw [hV_ne (by decide)]; exact ht i i0 i1), bd_some, sf_pos H1.1.1, Option.bind_some, gf_pos H2.1.1, Option.bind_some, sf_pos H2.1.1, Option.bind_some, hV_eq, if_neg (by decide), hV_eq, if_neg (by decide)]
    rfl
  · rw [g'.2.2.2 _ _ (by omega), hV_eq, if_neg (by decide), hV_eq, if_neg (by decide), hV_eq, if_pos rfl]
  · rw [g'.2.2.2 _ _ (by omega), hV_eq, if_neg (by decide), hV_eq, if_pos rfl]
  · rw [g'.2.2.2 _ _ (by omega), hV_eq, if_pos rfl]
  · rw [q' i (by omega) i1, hV_ne (by decide), hV_ne (by decide), hV_ne (by decide)]; exact ht i i0 i1
theorem stM_MB (hg : GL n g) (hl : LG n fx t) (hm : MB m) : MB (stM n g fx m t) := by
  obtain ⟨b1, b2, b3, b4, b5⟩ := sums_b (fx := fx) hg (Nat.le_refl n) (fun i i0 i1 => (hl i i0 i1).1)
  have sb := slp_b b1 b2 b3 b4 b5
  have sl : 0 ≤ SL n g fx t ∧ SL n g fx t ≤ 20000 := sb.1
  cases hf : FE n g fx t
  · unfold stM; rw [hf, if_neg (by decide)]; exact hm
  · by_cases c : SL n g fx t < m.1 ∨ (SL n g fx t = m.1 ∧ us t n < m.2.1)
    · rw [stM_y hf c]; exact ⟨⟨sl.1, by dsimp only; omega⟩, fun _ => b1⟩
    · rw [stM_n hf c]; exact hm
theorem m_body (hg : GL n g) (hf5 : ∀ i : Int, n ≤ i → i < 5 → fx i = false) (H : MK n g fx h) (hl : LG n fx t) (ht : ∀ i : Int, 0 ≤ i → i < n → h_V h 59 i = t i) (hS : MSt n m h) (hm : MB m) (kf : Int → AH → Option (Int × AH)) : ∃ h', F_M_seeks_52 46 kf 1 h = f_M_seeks_150 kf 46 h' ∧ MSt n (stM n g fx m t) h' ∧ Ag X8 h h' := by
  have n5 := hg.1
  obtain ⟨b1, b2, b3, b4, b5⟩ := sums_b (fx := fx) hg (Nat.le_refl n) (fun i i0 i1 => (hl i i0 i1).1)
  have sb := slp_b b1 b2 b3 b4 b5
  have sl : 0 ≤ SL n g fx t ∧ SL n g fx t ≤ 20000 := sb.1
  obtain ⟨h1, e1, q1, g1⟩ := m_slipsNow hg hf5 H hl ht
  have g1' : Ag X8 h h1 := g1.mono fun a i z => by unfold X32 at z; unfold X8; omega
  have H1 := H.x9 (g1'.mono X89)
  have ht1 : ∀ i : Int, 0 ≤ i → i < n → h_V h1 59 i = t i := fun i i0 i1 => by rw [g1.2.2.2 _ _ (by unfold X32; omega)]; exact ht i i0 i1
  have S1 : MSt n m h1 := hS.cp fun a i z => g1.2.2.2 _ _ (by unfold X32; omega)
  have mb := hm.1
  unfold F_M_seeks_52
  rw [if_neg (by decide +kernel), ck_pos H.1.1, e1, bd_some, gf_pos H1.1.1, Option.bind_some, S1.1, nmi (z := m.1) (by omega) (by omega)]
  cases f : FE n g fx t
  · have es : SN n g fx t = 999999 := by unfold SN; rw [f, if_neg (by decide)]
    have em : stM n g fx m t = m := by unfold stM; rw [f, if_neg (by decide)]
    rw [es, nmi (z := 999999) (by decide) (by decide), if_neg (by omega), if_pos (Int.le_refl _), em]
    exact ⟨h1, rfl, S1, g1'⟩
  · have es : SN n g fx t = SL n g fx t := by unfold SN; rw [if_pos f]
    obtain ⟨h2, e2, S2, g2⟩ := m_take n5 H1 hl ht1 kf (v := SL n g fx t)
    rw [q1 f] at S2
    rw [es, nmi (z := SL n g fx t) (by omega) (by omega), nmi (z := 999999) (by decide) (by decide)]
    by_cases c : SL n g fx t < m.1
    · rw [if_pos c, stM_y f (Or.inl c)]
      exact ⟨h2, e2, S2, g1'.tr g2⟩
    · rw [if_neg c, if_neg (by omega), Option.bind_some, nmi (z := m.1) (by omega) (by omega)]
      by_cases d : SL n g fx t = m.1
      · have ne : m.1 ≠ 999999 := by omega
        have mt := hm.2 ne
        rw [if_neg (fun z => z d), ck_pos H1.1.1, m_tensAll n5 H1 hl ht1, bd_some, gf_pos H1.1.1, Option.bind_some, (S1.2 ne).1, nmi (z := us t n) (by omega) (by omega), nmi (z := m.2.1) (by omega) (by omega)]
        by_cases e : m.2.1 ≤ us t n
        · rw [if_pos e, stM_n f (by omega)]
          exact ⟨h1, rfl, S1, g1'⟩
        · rw [if_neg e, stM_y f (by omega)]
          exact ⟨h2, e2, S2, g1'.tr g2⟩
      · rw [if_pos d, stM_n f (by omega)]
        exact ⟨h1, rfl, S1, g1'⟩
/-! the next tens -/
def lwf (fx : Int → Bool) (s : Int) : Int := if fx s = true then 0 else -3
def hif (fx : Int → Bool) (s : Int) : Int := if fx s = true then 0 else 3
def F9n : (Int × AH → Option (Int × AH)) → Int × AH → Option (Int × AH) := fun k q => F_M_nextTens_9 46 (fun a0 a1 => k (a0, a1)) q.1 q.2
theorem nt_st {s : Int} (s0 : 0 ≤ s) (s1 : s < 5) (H : MK n g fx h) (kf : Int × AH → Option (Int × AH)) (hb : -3 ≤ h_V h 59 s ∧ h_V h 59 s ≤ 3) : F9n kf (s, h) = if fx s = true then kf (s + (-1), h) else (if 3 < h_V h 59 s + 1 then kf (s + (-1), h_S (h_S h 59 s (h_V h 59 s + 1)) 59 s (-3)) else some (1, h_S h 59 s (h_V h 59 s + 1))) := by
  have ga : Ag X9 h (h_S h 59 s (h_V h 59 s + 1)) := Ag.rf.st (by unfold X9; omega)
  have H1 := H.x9 ga
  unfold F9n F_M_nextTens_9
  dsimp only
  rw [nmi (z := s) (by omega) (by omega), if_neg (by omega), H.g28, Option.bind_some, m_isOf fx s0 s1, bd_some]
  cases f : fx s
  · rw [if_pos b01_f, if_neg (by decide), H.g59, Option.bind_some, H.a59 s0 s1, Option.bind_some, H.w59 s0 s1, Option.bind_some, H1.g59, Option.bind_some, H1.a59 s0 s1, Option.bind_some, hV_eq, if_pos rfl, nmi (z := 3) (by decide) (by decide), nmi (z := h_V h 59 s + 1) (by omega) (by omega), Option.bind_some, H1.w59 s0 s1, Option.bind_some, cb_1]
  · rw [if_neg b01_t, if_pos rfl]
theorem nt_dn {s : Int} (s0 : -1 ≤ s) : ∀ (k e : Nat) (h : AH), s + k < 5 → MK n g fx h → (∀ i : Int, s < i → i ≤ s + k → h_V h 59 i = hif fx i) → ∃ h', it_ F9n (k + e) (s + k, h) = it_ F9n e (s, h') ∧ (∀ i : Int, s < i → i ≤ s + k → h_V h' 59 i = lwf fx i) ∧ Ag (fun a i => a = 59 ∧ s < i ∧ i ≤ s + k) h h'
  | 0, e, h, es, H, hh => ⟨h, by rw [Nat.zero_add, show s + ((0 : Nat) : Int) = s by omega], fun i i0 i1 => by omega, Ag.rf⟩
  | k + 1, e, h, es, H, hh => by
    rw [show k + 1 + e = (k + e) + 1 by omega, it_un]
    have p0 : 0 ≤ s + ((k + 1 : Nat) : Int) := by omega
    have hp := hh (s + ((k + 1 : Nat) : Int)) (by omega) (by omega)
    have hb : -3 ≤ h_V h 59 (s + ((k + 1 : Nat) : Int)) ∧ h_V h 59 (s + ((k + 1 : Nat) : Int)) ≤ 3 := by rw [hp]; unfold hif; split <;> omega
    rw [nt_st p0 (by omega) H _ hb, show s + ((k + 1 : Nat) : Int) + (-1) = s + k by omega]
    cases f : fx (s + ((k + 1 : Nat) : Int))
    · have e3 : h_V h 59 (s + ((k + 1 : Nat) : Int)) = 3 := by rw [hp]; unfold hif; rw [f, if_neg (by decide)]
      have ga : Ag (fun a i => a = 59 ∧ s < i ∧ i ≤ s + ((k + 1 : Nat) : Int)) h (h_S (h_S h 59 (s + ((k + 1 : Nat) : Int)) (h_V h 59 (s + ((k + 1 : Nat) : Int)) + 1)) 59 (s + ((k + 1 : Nat) : Int)) (-3)) := (Ag.rf.st ⟨rfl, by omega, by omega⟩).st ⟨rfl, by omega, by omega⟩
      have H2 := H.x9 (ga.mono fun a i z => by unfold X9; omega)
      obtain ⟨h', e', q', g'⟩ := nt_dn s0 k e _ (by omega) H2 (fun i i0 i1 => by rw [hV_eq, if_neg (by omega), hV_eq, if_neg (by omega)]; exact hh i i0 (by omega))
      rw [if_neg (by decide), if_pos (by omega), e']
      refine ⟨h', rfl, fun i i0 i1 => ?_, ga.tr (g'.mono fun a i z => by omega)⟩
      by_cases d : i = s + ((k + 1 : Nat) : Int)
      · rw [g'.2.2.2 _ _ (by omega), hV_eq, if_pos d, d]; unfold lwf; rw [f, if_neg (by decide)]
      · exact q' i i0 (by omega)
    · have e3 : h_V h 59 (s + ((k + 1 : Nat) : Int)) = 0 := by rw [hp]; unfold hif; rw [f, if_pos rfl]
      obtain ⟨h', e', q', g'⟩ := nt_dn s0 k e h (by omega) H (fun i i0 i1 => hh i i0 (by omega))
      rw [if_pos rfl, e']
      refine ⟨h', rfl, fun i i0 i1 => ?_, g'.mono fun a i z => by omega⟩
      by_cases d : i = s + ((k + 1 : Nat) : Int)
      · rw [g'.2.2.2 _ _ (by omega), d, e3]; unfold lwf; rw [f, if_pos rfl]
      · exact q' i i0 (by omega)
end
