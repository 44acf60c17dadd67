/-! ===== slips: both ways of seeking come to the same ===== -/
section
variable {n : Nat} {g : Int → Int} {fx : Int → Bool}
theorem SL_cg {t t' : Int → Int} (h : ∀ i : Int, 0 ≤ i → i < n → t i = t' i) : SL n g fx t = SL n g fx t' ∧ SH n g fx t = SH n g fx t' ∧ FE n g fx t = FE n g fx t' ∧ us t n = us t' n := by
  unfold SL SH FE
  rw [us_cg h, ab_cg (g := g) h, be_cg (g := g) h, oa_cg (g := g) (fx := fx) h, ob_cg (g := g) (fx := fx) h]
  exact ⟨rfl, rfl, rfl, rfl⟩
theorem SL_nn {t : Int → Int} : 0 ≤ SL n g fx t := by
  have a := (SL_lo (n := n) (g := g) (fx := fx) (t := t)).1
  have b := us_nn t n
  have c := ab_nn g t n
  omega
theorem itn_add {S : Type} {f : Int → S → S} : ∀ (k l : Nat) (v : Int) (c : S), itn f (k + l) v c = itn f l (v + k) (itn f k v c)
  | 0, l, v, c => by
    show itn f (0 + l) v c = itn f l (v + 0) c
    rw [Nat.zero_add, Int.add_zero]
  | k + 1, l, v, c => by
    show itn f (k + 1 + l) v c = itn f l (v + ((k + 1 : Nat) : Int)) (itn f k (v + 1) (f v c))
    rw [show k + 1 + l = (k + l) + 1 by omega]
    show itn f (k + l) (v + 1) (f v c) = _
    rw [itn_add k l (v + 1) (f v c)]
    congr 1
    omega
def le2 (m : Int × Int × Int × (Int → Int)) (x y : Int) : Prop := m.1 < x ∨ (m.1 = x ∧ m.2.1 ≤ y)
theorem le2_rf (m : Int × Int × Int × (Int → Int)) : le2 m m.1 m.2.1 := Or.inr ⟨rfl, Int.le_refl _⟩
theorem le2_tr {m m' : Int × Int × Int × (Int → Int)} {x y : Int} (h : le2 m m'.1 m'.2.1) (h' : le2 m' x y) : le2 m x y := by unfold le2 at *; omega
theorem stM_y {m : Int × Int × Int × (Int → Int)} {t : Int → Int} (hf : FE n g fx t = true) (h : SL n g fx t < m.1 ∨ (SL n g fx t = m.1 ∧ us t n < m.2.1)) : stM n g fx m t = (SL n g fx t, us t n, SH n g fx t, t) := by unfold stM; rw [hf, if_pos rfl, if_pos h]
theorem stM_n {m : Int × Int × Int × (Int → Int)} {t : Int → Int} (hf : FE n g fx t = true) (h : ¬ (SL n g fx t < m.1 ∨ (SL n g fx t = m.1 ∧ us t n < m.2.1))) : stM n g fx m t = m := by unfold stM; rw [hf, if_pos rfl, if_neg h]
theorem stC_y {c : Int × Int × Int × Int × (Int → Int)} {t : Int → Int} (hf : FE n g fx t = true) (h : ¬ (c.1 < SL n g fx t ∨ (SL n g fx t = c.2.1 ∧ c.2.2.1 ≤ us t n))) : stC n g fx c t = (SL n g fx t, SL n g fx t, us t n, SH n g fx t, t) := by unfold stC; rw [hf, if_pos rfl, if_neg h]
theorem stC_n {c : Int × Int × Int × Int × (Int → Int)} {t : Int → Int} (hf : FE n g fx t = true) (h : c.1 < SL n g fx t ∨ (SL n g fx t = c.2.1 ∧ c.2.2.1 ≤ us t n)) : stC n g fx c t = c := by unfold stC; rw [hf, if_pos rfl, if_pos h]
theorem stM_le (m : Int × Int × Int × (Int → Int)) (t : Int → Int) : le2 (stM n g fx m t) m.1 m.2.1 := by
  cases hf : FE n g fx t
  · unfold stM; rw [hf, if_neg (by decide)]; exact le2_rf m
  · by_cases c : SL n g fx t < m.1 ∨ (SL n g fx t = m.1 ∧ us t n < m.2.1)
    · rw [stM_y hf c]; unfold le2; dsimp only; omega
    · rw [stM_n hf c]; exact le2_rf m
theorem fv_le {r : Nat} : ∀ (j s : Nat) (t : Int → Int) (m : Int × Int × Int × (Int → Int)), le2 (fv (stM n g fx) fx r j s t m) m.1 m.2.1
  | 0, _, t, m => stM_le m t
  | j + 1, s, t, m => itn_inv (P := fun a => le2 a m.1 m.2.1) _ _ _ (fun w a _ _ q => le2_tr (fv_le j (s + 1) (up_ t s w) a) q) (le2_rf m)
theorem itn_hit {f : Int → (Int × Int × Int × (Int → Int)) → Int × Int × Int × (Int → Int)} {x y : Int} (hd : ∀ w a, le2 (f w a) a.1 a.2.1) {k : Nat} {v w : Int} (w0 : v ≤ w) (w1 : w < v + k) (hw : ∀ a, le2 (f w a) x y) (c : Int × Int × Int × (Int → Int)) : le2 (itn f k v c) x y := by
  have e : k = ((w - v).toNat + 1) + (k - (w - v).toNat - 1) := by omega
  rw [e, itn_add, itn_add]
  have q := itn_inv (f := f) (P := fun a => le2 a (itn f 1 (v + (w - v).toNat) (itn f (w - v).toNat v c)).1 (itn f 1 (v + (w - v).toNat) (itn f (w - v).toNat v c)).2.1) (k - (w - v).toNat - 1) (v + (((w - v).toNat + 1 : Nat) : Int)) (itn f 1 (v + (w - v).toNat) (itn f (w - v).toNat v c)) (fun w a _ _ q => le2_tr (hd w a) q) (le2_rf _)
  refine le2_tr q ?_
  show le2 (f (v + (w - v).toNat) _) x y
  rw [show v + (w - v).toNat = w by omega]
  exact hw _
theorem fv_min {t : Int → Int} (hl : LG n fx t) (hf : FE n g fx t = true) : ∀ (j s : Nat) (p : Int → Int) (m : Int × Int × Int × (Int → Int)), s + j = n → (∀ i : Int, 0 ≤ i → i < s → p i = t i) → le2 (fv (stM n g fx) fx 3 j s p m) (SL n g fx t) (us t n)
  | 0, s, p, m, e, h => by
    have : s = n := by omega
    subst this
    obtain ⟨a1, a2, a3, a4⟩ := SL_cg (g := g) (fx := fx) h
    show le2 (stM s g fx m p) _ _
    rw [← a1, ← a4]
    rw [hf] at a3
    by_cases c : SL s g fx p < m.1 ∨ (SL s g fx p = m.1 ∧ us p s < m.2.1)
    · rw [stM_y a3 c]; exact Or.inr ⟨rfl, Int.le_refl _⟩
    · rw [stM_n a3 c]; unfold le2; omega
  | j + 1, s, p, m, e, h => by
    have q := hl s (by omega) (by omega)
    refine itn_hit (f := fun v c => fv (stM n g fx) fx 3 j (s + 1) (up_ p s v) c) (w := t s) (fun w a => fv_le j (s + 1) _ a) ?_ ?_ (fun a => fv_min hl hf j (s + 1) (up_ p s (t s)) a (by omega) fun i i0 i1 => ?_) m
    · by_cases f : fx s = true
      · rw [if_pos f, q.2 f]; exact Int.le_refl _
      · rw [if_neg f]; omega
    · by_cases f : fx s = true
      · rw [if_pos f, if_pos f, q.2 f]; decide
      · rw [if_neg f, if_neg f]; omega
    · rw [up_a]
      by_cases d : i = s
      · rw [if_pos d, d]
      · rw [if_neg d]; exact h i i0 (by omega)
def zv : Int → Int := fun _ => 0
theorem zv_up (s : Int) : up_ zv s 0 = zv := by funext i; rw [up_a]; unfold zv; split <;> rfl
theorem zv_LG : LG n fx zv := fun s _ _ => ⟨by unfold zv; omega, fun _ => rfl⟩
theorem fv_zv {S : Type} {st : S → (Int → Int) → S} : ∀ (j s : Nat) (c : S), fv st fx 0 j s zv c = st c zv
  | 0, _, _ => rfl
  | j + 1, s, c => by
    have a : (if fx s = true then 1 else 2 * 0 + 1) = 1 := by split <;> rfl
    have b : (if fx s = true then (0 : Int) else -((0 : Nat) : Int)) = 0 := by split <;> rfl
    show itn _ (if fx s = true then 1 else 2 * 0 + 1) (if fx s = true then (0 : Int) else -((0 : Nat) : Int)) c = _
    rw [a, b]
    show fv st fx 0 j (s + 1) (up_ zv s 0) c = _
    rw [zv_up]; exact fv_zv j (s + 1) c
/-- how the two stand while they seek -/
def VM (n : Nat) (g : Int → Int) (fx : Int → Bool) (m : Int × Int × Int × (Int → Int)) : Prop := m.1 = 999999 ∨ ∃ t, LG n fx t ∧ FE n g fx t = true ∧ m = (SL n g fx t, us t n, SH n g fx t, t)
def RL (n : Nat) (g : Int → Int) (fx : Int → Bool) (L : Int) (c : Int × Int × Int × Int × (Int → Int)) (m : Int × Int × Int × (Int → Int)) : Prop := VM n g fx m ∧ ((L < SL n g fx zv ∧ L < m.1 ∧ c.1 = L ∧ c.2.1 = -1) ∨ (SL n g fx zv ≤ L ∧ SL n g fx zv ≤ m.1 ∧ c = (SL n g fx zv, SL n g fx zv, 0, SH n g fx zv, zv)) ∨ (m.1 ≤ L ∧ m.1 < SL n g fx zv ∧ c = (m.1, m.1, m.2.1, m.2.2.1, m.2.2.2)))
theorem RL_st {L : Int} (hF : ∀ t, LG n fx t → FE n g fx t = true) {t : Int → Int} (hl : LG n fx t) {c : Int × Int × Int × Int × (Int → Int)} {m : Int × Int × Int × (Int → Int)} (h : RL n g fx L c m) : RL n g fx L (stC n g fx c t) (stM n g fx m t) := by
  have hf := hF t hl
  have nn := SL_nn (n := n) (g := g) (fx := fx) (t := t)
  have un := us_nn t n
  obtain ⟨v, h⟩ := h
  have vm : ∀ m', (m' = (SL n g fx t, us t n, SH n g fx t, t) ∨ m' = m) → VM n g fx m' := fun m' z => by
    rcases z with z | z
    · exact Or.inr ⟨t, hl, hf, z⟩
    · rw [z]; exact v
  rcases h with ⟨a1, a2, a3, a4⟩ | ⟨a1, a2, a3⟩ | ⟨a1, a2, a3⟩
  · by_cases q : SL n g fx t ≤ L
    · rw [stC_y hf (by omega), stM_y hf (by omega)]
      exact ⟨vm _ (Or.inl rfl), Or.inr (Or.inr ⟨q, by show SL n g fx t < _; omega, rfl⟩)⟩
    · rw [stC_n hf (by omega)]
      by_cases p : SL n g fx t < m.1 ∨ (SL n g fx t = m.1 ∧ us t n < m.2.1)
      · rw [stM_y hf p]
        exact ⟨vm _ (Or.inl rfl), Or.inl ⟨a1, by show L < SL n g fx t; omega, a3, a4⟩⟩
      · rw [stM_n hf p]
        exact ⟨v, Or.inl ⟨a1, a2, a3, a4⟩⟩
  · subst a3
    by_cases q : SL n g fx t < SL n g fx zv
    · rw [stC_y hf (by dsimp only; omega), stM_y hf (by omega)]
      exact ⟨vm _ (Or.inl rfl), Or.inr (Or.inr ⟨by show SL n g fx t ≤ L; omega, q, rfl⟩)⟩
    · rw [stC_n hf (by dsimp only; omega)]
      by_cases p : SL n g fx t < m.1 ∨ (SL n g fx t = m.1 ∧ us t n < m.2.1)
      · rw [stM_y hf p]
        exact ⟨vm _ (Or.inl rfl), Or.inr (Or.inl ⟨a1, by show _ ≤ SL n g fx t; omega, rfl⟩)⟩
      · rw [stM_n hf p]
        exact ⟨v, Or.inr (Or.inl ⟨a1, a2, rfl⟩)⟩
  · subst a3
    by_cases p : SL n g fx t < m.1 ∨ (SL n g fx t = m.1 ∧ us t n < m.2.1)
    · rw [stC_y hf (by dsimp only; omega), stM_y hf p]
      exact ⟨vm _ (Or.inl rfl), Or.inr (Or.inr ⟨by show SL n g fx t ≤ L; omega, by show SL n g fx t < _; omega, rfl⟩)⟩
    · rw [stC_n hf (by dsimp only; omega), stM_n hf p]
      exact ⟨v, Or.inr (Or.inr ⟨a1, a2, rfl⟩)⟩
def cI (L : Int) : Int × Int × Int × Int × (Int → Int) := (L, -1, 0, 0, zv)
def mI : Int × Int × Int × (Int → Int) := (999999, 0, 0, zv)
def cF (n : Nat) (g : Int → Int) (fx : Int → Bool) (L : Int) : Int × Int × Int × Int × (Int → Int) := fv (stC n g fx) fx 3 n 0 zv (fv (stC n g fx) fx 0 n 0 zv (cI L))
def mF (n : Nat) (g : Int → Int) (fx : Int → Bool) : Int × Int × Int × (Int → Int) := fv (stM n g fx) fx 3 n 0 zv mI
theorem us_z {t : Int → Int} : ∀ k : Nat, us t k = 0 → ∀ i : Int, 0 ≤ i → i < k → t i = 0
  | 0, _, i, i0, i1 => by omega
  | k + 1, h, i, i0, i1 => by
    have a : us t k + av (t k) = 0 := h
    have b := us_nn t k
    have c := av_nn (t k)
    by_cases d : i = k
    · rw [d]
      have : av (t k) = 0 := by omega
      unfold av at this
      split at this <;> omega
    · exact us_z k (by omega) i i0 (by omega)
theorem alf_i : ∀ k : Nat, alf fx k = true → ∀ i : Int, 0 ≤ i → i < k → fx i = true
  | 0, _, i, i0, i1 => by omega
  | k + 1, h, i, i0, i1 => by
    have a : (alf fx k && fx k) = true := h
    simp only [Bool.and_eq_true] at a
    by_cases d : i = k
    · rw [d]; exact a.2
    · exact alf_i k a.1 i i0 (by omega)
/-- there is a way at all, or none -/
theorem FE_all (h : FE n g fx zv = true) : ∀ t, LG n fx t → FE n g fx t = true := fun t hl => by
  by_cases c : alf fx n = true
  · have : ∀ i : Int, 0 ≤ i → i < n → t i = zv i := fun i i0 i1 => (hl i i0 i1).2 (alf_i n c i i0 i1)
    rw [(SL_cg this).2.2.1]; exact h
  · unfold FE; simp [c]
theorem FE_none (h : FE n g fx zv = false) : ∀ t, LG n fx t → FE n g fx t = false := fun t hl => by
  have c : alf fx n = true := by
    unfold FE at h
    simp only [Bool.or_eq_false_iff, Bool.not_eq_false'] at h
    exact h.1
  have : ∀ i : Int, 0 ≤ i → i < n → t i = zv i := fun i i0 i1 => (hl i i0 i1).2 (alf_i n c i i0 i1)
  rw [(SL_cg this).2.2.1]; exact h
theorem F_none (h : FE n g fx zv = false) (L : Int) : cF n g fx L = cI L ∧ mF n g fx = mI := by
  have k : ∀ (c : Int × Int × Int × Int × (Int → Int)) (m : Int × Int × Int × (Int → Int)), (c = cI L ∧ m = mI) → fv (stC n g fx) fx 3 n 0 zv c = cI L ∧ fv (stM n g fx) fx 3 n 0 zv m = mI := fun c m q =>
    fv_rel (n := n) (fx := fx) (Rl := fun a b => a = cI L ∧ b = mI) (Nat.le_refl 3) (fun t a b hl r => by
      unfold stC stM
      rw [FE_none h t hl, if_neg (by decide), if_neg (by decide)]; exact r) n 0 zv c m (by omega) (fun i i0 i1 => by omega) q
  have e : fv (stC n g fx) fx 0 n 0 zv (cI L) = cI L := by
    rw [fv_zv]; unfold stC; rw [h, if_neg (by decide)]
  unfold cF mF
  rw [e]
  exact k _ _ ⟨rfl, rfl⟩
theorem F_some (h : FE n g fx zv = true) {L : Int} (L0 : 0 ≤ L) (hb : SL n g fx zv < 999999) : RL n g fx L (cF n g fx L) (mF n g fx) ∧ le2 (mF n g fx) (SL n g fx zv) 0 := by
  have e : fv (stC n g fx) fx 0 n 0 zv (cI L) = stC n g fx (cI L) zv := fv_zv n 0 _
  have nn := SL_nn (n := n) (g := g) (fx := fx) (t := zv)
  have uz : us zv n = 0 := by
    have a : ∀ k : Nat, us zv k = 0 := fun k => by
      induction k with
      | zero => rfl
      | succ k ih => show us zv k + av (zv k) = 0; rw [ih]; rfl
    exact a n
  have r0 : RL n g fx L (stC n g fx (cI L) zv) mI := by
    refine ⟨Or.inl rfl, ?_⟩
    by_cases q : L < SL n g fx zv
    · rw [stC_n h (Or.inl q)]
      exact Or.inl ⟨q, by show L < 999999; omega, rfl, rfl⟩
    · rw [stC_y h (by unfold cI; dsimp only; omega), uz]
      exact Or.inr (Or.inl ⟨by omega, by show _ ≤ (999999 : Int); omega, rfl⟩)
  refine ⟨?_, ?_⟩
  · unfold cF mF
    rw [e]
    exact fv_rel (n := n) (fx := fx) (Nat.le_refl 3) (fun t a b hl r => RL_st (FE_all h) hl r) n 0 zv _ _ (by omega) (fun i i0 i1 => by omega) r0
  · unfold mF
    have := fv_min (n := n) (g := g) zv_LG h n 0 zv mI (by omega) fun i i0 i1 => by omega
    rw [uz] at this
    exact this
/-- sought without a limit -/
theorem F_free {L : Int} (hL : 999999 ≤ L) (hb : SL n g fx zv < 999999) : (((cF n g fx L).2.1 = -1) ↔ (mF n g fx).1 = 999999) ∧ ((mF n g fx).1 ≠ 999999 → (cF n g fx L).2.1 = (mF n g fx).1 ∧ (cF n g fx L).2.2.1 = (mF n g fx).2.1 ∧ (cF n g fx L).2.2.2.1 = (mF n g fx).2.2.1 ∧ ∀ i : Int, 0 ≤ i → i < n → (cF n g fx L).2.2.2.2 i = (mF n g fx).2.2.2 i) ∧ (mF n g fx).1 ≤ 999999 ∧ ((mF n g fx).1 ≠ 999999 → 0 ≤ (mF n g fx).1) := by
  cases h : FE n g fx zv
  · obtain ⟨a, b⟩ := F_none h L
    rw [a, b]
    exact ⟨⟨fun _ => rfl, fun _ => rfl⟩, fun z => absurd rfl z, Int.le_refl _, fun z => absurd rfl z⟩
  · obtain ⟨⟨v, r⟩, l⟩ := F_some h (show 0 ≤ L by omega) hb
    have nn := SL_nn (n := n) (g := g) (fx := fx) (t := zv)
    generalize mF n g fx = m at *
    generalize cF n g fx L = c at *
    have l' : m.1 ≤ SL n g fx zv := by unfold le2 at l; omega
    have m9 : m.1 ≠ 999999 := by omega
    have m0 : 0 ≤ m.1 := by
      rcases v with v | ⟨t, _, _, v⟩
      · omega
      · rw [v]; exact SL_nn
    rcases r with ⟨a1, _⟩ | ⟨a1, a2, a3⟩ | ⟨a1, a2, a3⟩
    · omega
    · subst a3
      rcases v with v | ⟨t, t1, t2, v⟩
      · omega
      · subst v
        unfold le2 at l
        dsimp only at l l' a2 m9 m0 ⊢
        have e : SL n g fx t = SL n g fx zv := by omega
        refine ⟨⟨fun z => by omega, fun z => by omega⟩, fun _ => ?_, by omega, fun _ => m0⟩
        by_cases u0 : us t n = 0
        · have tz := us_z n u0
          obtain ⟨s1, s2, s3, s4⟩ := SL_cg (n := n) (g := g) (fx := fx) (t := t) (t' := zv) fun i i0 i1 => tz i i0 i1
          exact ⟨e.symm, u0.symm, s2.symm, fun i i0 i1 => (tz i i0 i1).symm⟩
        · have := us_nn t n; omega
    · subst a3
      dsimp only
      exact ⟨⟨fun z => by omega, fun z => absurd z m9⟩, fun _ => ⟨rfl, rfl, rfl, fun _ _ _ => rfl⟩, by omega, fun _ => m0⟩
/-- sought with a limit -/
theorem F_lim {L : Int} (L0 : 0 ≤ L) (hL : L < 999999) (hb : SL n g fx zv < 999999) : (cF n g fx L).2.1 = -1 ↔ L < (mF n g fx).1 := by
  cases h : FE n g fx zv
  · obtain ⟨a, b⟩ := F_none h L
    rw [a, b]
    exact ⟨fun _ => hL, fun _ => rfl⟩
  · obtain ⟨⟨v, r⟩, l⟩ := F_some h L0 hb
    have nn := SL_nn (n := n) (g := g) (fx := fx) (t := zv)
    generalize mF n g fx = m at *
    generalize cF n g fx L = c at *
    have l' : m.1 ≤ SL n g fx zv := by unfold le2 at l; omega
    have m0 : 0 ≤ m.1 := by
      rcases v with v | ⟨t, _, _, v⟩
      · omega
      · rw [v]; exact SL_nn
    rcases r with ⟨a1, a2, a3, a4⟩ | ⟨a1, a2, a3⟩ | ⟨a1, a2, a3⟩
    · exact ⟨fun _ => a2, fun _ => a4⟩
    · subst a3; dsimp only; omega
    · subst a3; dsimp only; omega
theorem mF_v : VM n g fx (mF n g fx) := by
  unfold mF
  have := fv_rel (n := n) (fx := fx) (st := stM n g fx) (st' := fun (x : Unit) _ => x) (Rl := fun a _ => VM n g fx a) (Nat.le_refl 3) (fun t a b hl r => by
    cases hf : FE n g fx t
    · unfold stM; rw [hf, if_neg (by decide)]; exact r
    · by_cases c : SL n g fx t < a.1 ∨ (SL n g fx t = a.1 ∧ us t n < a.2.1)
      · rw [stM_y hf c]; exact Or.inr ⟨t, hl, hf, rfl⟩
      · rw [stM_n hf c]; exact r) n 0 zv mI () (by omega) (fun i i0 i1 => by omega) (Or.inl rfl)
  exact this
theorem mF_min {t : Int → Int} (hl : LG n fx t) (hf : FE n g fx t = true) : (mF n g fx).1 ≤ SL n g fx t := by
  have := fv_min (n := n) (g := g) hl hf n 0 zv mI (by omega) fun i i0 i1 => by omega
  unfold le2 at this
  unfold mF
  omega
theorem shf_mono {A Bw oA oB oA' oB' : Int} (h1 : oA' ≤ oA) (h2 : oB' ≤ oB) : shf A Bw oA oB ≤ shf A Bw oA' oB' := by
  unfold shf
  (repeat' split) <;> omega
theorem alf_n {i : Int} (h : fx i = false) (i0 : 0 ≤ i) : ∀ k : Nat, i < k → alf fx k = false
  | 0, h1 => by omega
  | k + 1, h1 => by
    show (alf fx k && fx k) = false
    by_cases d : i = k
    · rw [← d, h]; simp
    · rw [alf_n h i0 k (by omega)]; simp
/-- one station more without slips of its own: no fewer slips -/
theorem mF_mono {fx' : Int → Bool} (hs : ∀ i, fx i = true → fx' i = true) {s : Int} (s0 : 0 ≤ s) (s1 : s < n) (hn : fx s = false) (h9 : (mF n g fx').1 ≠ 999999) : (mF n g fx).1 ≤ (mF n g fx').1 := by
  rcases mF_v (n := n) (g := g) (fx := fx') with v | ⟨t, t1, t2, v⟩
  · exact absurd v h9
  · have hl : LG n fx t := fun i i0 i1 => ⟨(t1 i i0 i1).1, fun z => (t1 i i0 i1).2 (hs i z)⟩
    have hf : FE n g fx t = true := by unfold FE; rw [alf_n hn s0 n s1]; rfl
    refine Int.le_trans (mF_min hl hf) ?_
    rw [v]
    show SL n g fx t ≤ SL n g fx' t
    unfold SL slp
    have a : oa g fx' t n ≤ oa g fx t n := su_le (fun i => by
      by_cases c : fx i = true
      · rw [if_pos c, if_pos (hs i c)]; exact Int.le_refl _
      · rw [if_neg c]; split <;> first | exact Int.le_refl _ | exact mx0_nn _) n
    have b : ob g fx' t n ≤ ob g fx t n := su_le (fun i => by
      by_cases c : fx i = true
      · rw [if_pos c, if_pos (hs i c)]; exact Int.le_refl _
      · rw [if_neg c]; split <;> first | exact Int.le_refl _ | exact mx0_nn _) n
    have := shf_mono (A := ab g t n) (Bw := be g t n) a b
    omega
end
