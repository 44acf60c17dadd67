/-! ===== slips: what is sought ===== -/
def av (z : Int) : Int := if z < 0 then -z else z
def mx0 (z : Int) : Int := if z < 0 then 0 else z
def su (f : Int → Int) : Nat → Int
  | 0 => 0
  | k + 1 => su f k + f k
theorem su_cg {f g : Int → Int} : ∀ k : Nat, (∀ i : Int, 0 ≤ i → i < k → f i = g i) → su f k = su g k
  | 0, _ => rfl
  | k + 1, h => by
    show su f k + f k = su g k + g k
    rw [su_cg k (fun i i0 i1 => h i i0 (by omega)), h k (by omega) (by omega)]
theorem su_nn {f : Int → Int} (h : ∀ i, 0 ≤ f i) : ∀ k : Nat, 0 ≤ su f k
  | 0 => Int.le_refl 0
  | k + 1 => by
    have := su_nn h k
    have := h k
    show 0 ≤ su f k + f k
    omega
theorem su_le {f g : Int → Int} (h : ∀ i, f i ≤ g i) : ∀ k : Nat, su f k ≤ su g k
  | 0 => Int.le_refl 0
  | k + 1 => by
    have := su_le h k
    have := h k
    show su f k + f k ≤ su g k + g k
    omega
theorem su_b {f : Int → Int} {M : Int} : ∀ k : Nat, (∀ i : Int, 0 ≤ i → i < k → f i ≤ M) → su f k ≤ M * k
  | 0, _ => by show (0 : Int) ≤ M * 0; omega
  | k + 1, h => by
    have a := su_b (f := f) (M := M) k fun i i0 i1 => h i i0 (by omega)
    have b := h k (by omega) (by omega)
    have e : M * ((k + 1 : Nat) : Int) = M * k + M := by rw [Int.natCast_add, Int.mul_add]; simp
    show su f k + f k ≤ _
    rw [e]
    omega
def us (t : Int → Int) (k : Nat) : Int := su (fun s => av (t s)) k
def ab (g t : Int → Int) (k : Nat) : Int := su (fun s => mx0 (g s - 10 * t s)) k
def be (g t : Int → Int) (k : Nat) : Int := su (fun s => mx0 (-(g s - 10 * t s))) k
def oa (g : Int → Int) (fx : Int → Bool) (t : Int → Int) (k : Nat) : Int := su (fun s => if fx s = true then 0 else mx0 (g s - 10 * t s)) k
def ob (g : Int → Int) (fx : Int → Bool) (t : Int → Int) (k : Nat) : Int := su (fun s => if fx s = true then 0 else mx0 (-(g s - 10 * t s))) k
def alf (fx : Int → Bool) : Nat → Bool
  | 0 => true
  | k + 1 => alf fx k && fx k
def shf (A Bw oA oB : Int) : Int := if A - Bw < 0 then Bw - (if oB < -(A - Bw) then oB else -(A - Bw)) else A - (if oA < A - Bw then oA else A - Bw)
def slp (u A Bw oA oB : Int) : Int := u + av (A - Bw) + shf A Bw oA oB
section
variable {n : Nat} {g : Int → Int} {fx : Int → Bool} {t : Int → Int} {c : Int × Int × Int × Int × (Int → Int)}
def SL (n : Nat) (g : Int → Int) (fx : Int → Bool) (t : Int → Int) : Int := slp (us t n) (ab g t n) (be g t n) (oa g fx t n) (ob g fx t n)
def SH (n : Nat) (g : Int → Int) (fx : Int → Bool) (t : Int → Int) : Int := shf (ab g t n) (be g t n) (oa g fx t n) (ob g fx t n)
def FE (n : Nat) (g : Int → Int) (fx : Int → Bool) (t : Int → Int) : Bool := !alf fx n || decide (ab g t n - be g t n = 0)
def LG (n : Nat) (fx : Int → Bool) (t : Int → Int) : Prop := ∀ s : Int, 0 ≤ s → s < n → (-3 ≤ t s ∧ t s ≤ 3) ∧ (fx s = true → t s = 0)
theorem av_nn (z : Int) : 0 ≤ av z := by unfold av; split <;> omega
theorem mx0_nn (z : Int) : 0 ≤ mx0 z := by unfold mx0; split <;> omega
theorem us_nn (t : Int → Int) (k : Nat) : 0 ≤ us t k := su_nn (fun _ => av_nn _) k
theorem ab_nn (g t : Int → Int) (k : Nat) : 0 ≤ ab g t k := su_nn (fun _ => mx0_nn _) k
theorem be_nn (g t : Int → Int) (k : Nat) : 0 ≤ be g t k := su_nn (fun _ => mx0_nn _) k
theorem oa_nn (g : Int → Int) (fx : Int → Bool) (t : Int → Int) (k : Nat) : 0 ≤ oa g fx t k := su_nn (fun _ => by split <;> first | exact Int.le_refl _ | exact mx0_nn _) k
theorem ob_nn (g : Int → Int) (fx : Int → Bool) (t : Int → Int) (k : Nat) : 0 ≤ ob g fx t k := su_nn (fun _ => by split <;> first | exact Int.le_refl _ | exact mx0_nn _) k
theorem oa_le (g : Int → Int) (fx : Int → Bool) (t : Int → Int) (k : Nat) : oa g fx t k ≤ ab g t k := su_le (fun s => by split <;> first | exact Int.le_refl _ | exact mx0_nn _) k
theorem ob_le (g : Int → Int) (fx : Int → Bool) (t : Int → Int) (k : Nat) : ob g fx t k ≤ be g t k := su_le (fun s => by split <;> first | exact Int.le_refl _ | exact mx0_nn _) k
/-- no fewer slips than these -/
theorem slp_lo {u A Bw oA oB : Int} (h1 : oA ≤ A) (h2 : oB ≤ Bw) (h3 : 0 ≤ oA) (h4 : 0 ≤ oB) : u + A ≤ slp u A Bw oA oB ∧ u + Bw ≤ slp u A Bw oA oB := by
  unfold slp shf av
  (repeat' split) <;> omega
theorem SL_lo : us t n + ab g t n ≤ SL n g fx t ∧ us t n + be g t n ≤ SL n g fx t := slp_lo (oa_le ..) (ob_le ..) (oa_nn ..) (ob_nn ..)
def stC (n : Nat) (g : Int → Int) (fx : Int → Bool) (c : Int × Int × Int × Int × (Int → Int)) (t : Int → Int) : Int × Int × Int × Int × (Int → Int) := if FE n g fx t = true then (if c.1 < SL n g fx t ∨ (SL n g fx t = c.2.1 ∧ c.2.2.1 ≤ us t n) then c else (SL n g fx t, SL n g fx t, us t n, SH n g fx t, t)) else c
def stM (n : Nat) (g : Int → Int) (fx : Int → Bool) (m : Int × Int × Int × (Int → Int)) (t : Int → Int) : Int × Int × Int × (Int → Int) := if FE n g fx t = true then (if SL n g fx t < m.1 ∨ (SL n g fx t = m.1 ∧ us t n < m.2.1) then (SL n g fx t, us t n, SH n g fx t, t) else m) else m
def itn {S : Type} (f : Int → S → S) : Nat → Int → S → S
  | 0, _, c => c
  | k + 1, v, c => itn f k (v + 1) (f v c)
/-- all ways of tens from a station on, those of a station from below up -/
def fv {S : Type} (st : S → (Int → Int) → S) (fx : Int → Bool) (r : Nat) : Nat → Nat → (Int → Int) → S → S
  | 0, _, t, c => st c t
  | j + 1, s, t, c => itn (fun v c => fv st fx r j (s + 1) (up_ t s v) c) (if fx s = true then 1 else 2 * r + 1) (if fx s = true then 0 else -(r : Int)) c
theorem itn_id {S : Type} {f : Int → S → S} {c : S} : ∀ (k : Nat) (v : Int), (∀ w, f w c = c) → itn f k v c = c
  | 0, _, _ => rfl
  | k + 1, v, h => by
    show itn f k (v + 1) (f v c) = c
    rw [h v]; exact itn_id k (v + 1) h
theorem itn_rel {S T : Type} {f : Int → S → S} {f' : Int → T → T} {Rl : S → T → Prop} : ∀ (k : Nat) (v : Int) (c : S) (d : T), (∀ w a b, v ≤ w → w < v + k → Rl a b → Rl (f w a) (f' w b)) → Rl c d → Rl (itn f k v c) (itn f' k v d)
  | 0, _, _, _, _, h => h
  | k + 1, v, c, d, hs, h => itn_rel k (v + 1) (f v c) (f' v d) (fun w a b w0 w1 r => hs w a b (by omega) (by omega) r) (hs v c d (by omega) (by omega) h)
/-- an invariant of the ways -/
theorem itn_inv {S : Type} {f : Int → S → S} {P : S → Prop} (k : Nat) (v : Int) (c : S) (hs : ∀ w a, v ≤ w → w < v + k → P a → P (f w a)) (h : P c) : P (itn f k v c) :=
  itn_rel (f' := fun _ (x : Unit) => x) (Rl := fun a _ => P a) k v c () (fun w a _ w0 w1 r => hs w a w0 w1 r) h
theorem fv_rel {S T : Type} {st : S → (Int → Int) → S} {st' : T → (Int → Int) → T} {Rl : S → T → Prop} {r : Nat} (hr : r ≤ 3) (hs : ∀ t a b, LG n fx t → Rl a b → Rl (st a t) (st' b t)) : ∀ (j s : Nat) (t : Int → Int) (c : S) (d : T), s + j = n → (∀ i : Int, 0 ≤ i → i < s → (-3 ≤ t i ∧ t i ≤ 3) ∧ (fx i = true → t i = 0)) → Rl c d → Rl (fv st fx r j s t c) (fv st' fx r j s t d)
  | 0, s, t, c, d, e, l, h => hs t c d (fun i i0 i1 => l i i0 (by omega)) h
  | j + 1, s, t, c, d, e, l, h => by
    refine itn_rel _ _ _ _ (fun w a b w0 w1 r => fv_rel hr hs j (s + 1) (up_ t s w) a b (by omega) (fun i i0 i1 => ?_) r) h
    rw [up_a]
    by_cases q : i = s
    · rw [if_pos q, q]
      by_cases f : fx s = true
      · rw [if_pos f] at w0 w1
        rw [if_pos f] at w1
        exact ⟨by omega, fun _ => by omega⟩
      · rw [if_neg f] at w0 w1
        rw [if_neg f] at w1
        exact ⟨by omega, fun z => absurd z f⟩
    · rw [if_neg q]; exact l i i0 (by omega)
theorem us_cg {t t' : Int → Int} {k : Nat} (h : ∀ i : Int, 0 ≤ i → i < k → t i = t' i) : us t k = us t' k := su_cg k fun i i0 i1 => by rw [h i i0 i1]
theorem ab_cg {t t' : Int → Int} {k : Nat} (h : ∀ i : Int, 0 ≤ i → i < k → t i = t' i) : ab g t k = ab g t' k := su_cg k fun i i0 i1 => by rw [h i i0 i1]
theorem be_cg {t t' : Int → Int} {k : Nat} (h : ∀ i : Int, 0 ≤ i → i < k → t i = t' i) : be g t k = be g t' k := su_cg k fun i i0 i1 => by rw [h i i0 i1]
theorem oa_cg {t t' : Int → Int} {k : Nat} (h : ∀ i : Int, 0 ≤ i → i < k → t i = t' i) : oa g fx t k = oa g fx t' k := su_cg k fun i i0 i1 => by rw [h i i0 i1]
theorem ob_cg {t t' : Int → Int} {k : Nat} (h : ∀ i : Int, 0 ≤ i → i < k → t i = t' i) : ob g fx t k = ob g fx t' k := su_cg k fun i i0 i1 => by rw [h i i0 i1]
theorem up_lo (t : Int → Int) (s : Nat) (v : Int) : ∀ i : Int, 0 ≤ i → i < s → up_ t s v i = t i := fun i _ i1 => by rw [up_a, if_neg (by omega)]
/-- ways that can't be better are passed over -/
theorem fv_cut {r : Nat} : ∀ (j s : Nat) (t : Int → Int), s + j = n → (c.1 < us t s + ab g t s ∨ c.1 < us t s + be g t s) → fv (stC n g fx) fx r j s t c = c
  | 0, s, t, e, h => by
    have : s = n := by omega
    subst this
    have l := SL_lo (n := s) (g := g) (fx := fx) (t := t)
    show stC s g fx c t = c
    unfold stC
    split
    · rw [if_pos (Or.inl (by omega))]
    · rfl
  | j + 1, s, t, e, h => by
    refine itn_id _ _ fun w => fv_cut j (s + 1) (up_ t s w) (by omega) ?_
    have a1 : us (up_ t s w) (s + 1) = us t s + av w := by
      show us (up_ t s w) s + av (up_ t s w s) = _
      rw [us_cg (up_lo t s w), up_a, if_pos rfl]
    have a2 : ab g (up_ t s w) (s + 1) = ab g t s + mx0 (g s - 10 * w) := by
      show ab g (up_ t s w) s + mx0 (g s - 10 * up_ t s w s) = _
      rw [ab_cg (up_lo t s w), up_a, if_pos rfl]
    have a3 : be g (up_ t s w) (s + 1) = be g t s + mx0 (-(g s - 10 * w)) := by
      show be g (up_ t s w) s + mx0 (-(g s - 10 * up_ t s w s)) = _
      rw [be_cg (up_lo t s w), up_a, if_pos rfl]
    have b1 := av_nn w
    have b2 := mx0_nn (g s - 10 * w)
    have b3 := mx0_nn (-(g s - 10 * w))
    rw [a1, a2, a3]
    omega
end
