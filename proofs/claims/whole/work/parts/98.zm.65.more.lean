/-! ===== loops, new cells by name, arraycopy, literals ===== -/
section SG
variable {S : SX} {own : String} {cc : ByteArray} {pc : Nat} {ls : List (Nat × Nat × Int)} {st : List (Nat × Int)} {k n : Nat} {h : AH} {o : Option (Int × AH)}
theorem s_loop {σ : Type} {F : (σ → Option (Int × AH)) → σ → Option (Int × AH)} {lsf : σ → List (Nat × Nat × Int)} {hf : σ → AH} (hF : ∀ kf : σ → Option (Int × AH), (∀ s, Sim S pc (lsf s) [] k n (hf s) (kf s)) → ∀ s, Sim S pc (lsf s) [] k n (hf s) (F kf s)) : ∀ (m : Nat) (s : σ), Sim S pc (lsf s) [] k n (hf s) (it_ F m s)
  | 0, _ => s_none
  | m + 1, s => hF (it_ F m) (fun s => s_loop hF m s) s
theorem s_newb (hS : SO S own cc) {ci ix N : Nat} {C : String} {T : u_T} {tag : Int} {f : Int → AH → Option (Int × AH)} (hC : cow_ ci C T N) (e1 : (ci : Int) + 1 = tag) (w1 : Cond.classLink own ix C ∈ gw_) (w2 : Cond.instantiable C N ∈ gw_) (w3 : Cond.initialized C ∈ gw_) (hk : k + 1 ≤ S.2.2.2.1) (hn : n + N ≤ S.2.2.2.2.1) (d : decode cc pc = .ok (.new ix, 3))
    (kk : ∀ (x : Int) (h2 : AH), Sim S (pc + 3) ls ((2, x) :: st) (k + 1) (n + N) h2 (f x h2)) : Sim S pc ls st k n h ((some (h_x h)).bind fun x => (some (h_A h tag 0)).bind fun h2 => f x h2) :=
  s_new hS hC e1 w1 w2 w3 hk hn d (kk _ _)
theorem s_newab (hS : SO S own cc) {t z mx : Int} {at_ : ArrayType} {M : Nat} {f : Int → AH → Option (Int × AH)} (hty : newarray.typeOf at_ = e_ty t) (h1 : 20 ≤ t) (h2 : t ≤ 23) (hM : mx = (M : Int)) (hb : M ≤ 100000) (w1 : Cond.arrayClass (newarray.typeOf at_) ∈ gw_) (hk : k + 1 ≤ S.2.2.2.1) (hn : n + M ≤ S.2.2.2.2.1) (d : decode cc pc = .ok (.newarray at_, 2))
    (kk : ∀ (x : Int) (h2 : AH), Sim S (pc + 2) ls ((2, x) :: st) (k + 1) (n + M) h2 (f x h2)) : Sim S pc ls ((0, z) :: st) k n h ((some (h_x h)).bind fun x => (n_a h t z mx).bind fun h2 => f x h2) :=
  s_newa hS hty h1 h2 hM hb w1 hk hn d (kk _)
theorem s_newqb (hS : SO S own cc) {t z mx : Int} {ix : Nat} {C : String} {M : Nat} {f : Int → AH → Option (Int × AH)} (hty : e_ty t = .object C) (h1 : 24 ≤ t) (h2 : t ≤ 26) (hM : mx = (M : Int)) (hb : M ≤ 100000) (hAO : ∀ U : State, EO S.1 U → va_AO C U) (w1 : Cond.classLink own ix C ∈ gw_) (hk : k + 1 ≤ S.2.2.2.1) (hn : n + M ≤ S.2.2.2.2.1) (d : decode cc pc = .ok (.anewarray ix, 3))
    (kk : ∀ (x : Int) (h2 : AH), Sim S (pc + 3) ls ((2, x) :: st) (k + 1) (n + M) h2 (f x h2)) : Sim S pc ls ((0, z) :: st) k n h ((some (h_x h)).bind fun x => (n_a h t z mx).bind fun h2 => f x h2) :=
  s_newq hS hty h1 h2 hM hb hAO w1 hk hn d (kk _)
theorem ao_24 : ∀ U : State, EO S.1 U → va_AO RX3 U := fun _ h => h.2.2.2.1.1
theorem ao_25 : ∀ U : State, EO S.1 U → va_AO RX0 U := fun _ h => h.2.2.2.1.2.1
theorem ao_26 : ∀ U : State, EO S.1 U → va_AO RX5 U := fun _ h => h.2.2.2.1.2.2
theorem i64_neg (x : Int) : i64 (-x) = -i64 x := Int64.ofInt_neg ..
theorem s_lneg (hS : SO S own cc) {x : Int} (d : decode cc pc = .ok (.lneg, 1)) (kk : Sim S (pc + 1) ls ((1, -x) :: st) k n h o) : Sim S pc ls ((1, x) :: st) k n h o := by
  intro r h' ho H locs la hH hf hv
  have K := kk r h' ho H locs la hH hf hv
  simp only [List.map_cons, gv1, i64_neg] at K ⊢
  exact lv_lneg hS.1 hS.2.1 d K
theorem s_str (hS : SO S own cc) (i : Nat) {ix : Nat} {tx : String} {z : Int} (hz : -((i : Int) + 1) = z) (hi : sx_[i]? = some (own, ix, tx)) (d : decode cc pc = .ok (.ldc ix, 2)) (kk : Sim S (pc + 2) ls ((2, z) :: st) k n h o) : Sim S pc ls st k n h o := by
  subst hz
  intro r h' ho H locs la hH hf hv
  have K := kk r h' ho H locs la hH hf hv
  have e : g_v S.1 (2, -((i : Int) + 1)) = .ref (S.1.2.1 i) := by
    rw [gv2 _ (by omega)]
    unfold g_a
    rw [if_neg (by omega), show (-(-((i : Int) + 1)) - 1).toNat = i by omega]
  simp only [List.map_cons, e] at K
  exact va_ldcS hS.1 hS.2.1 hS.2.2.2.1 (hS.2.2.2.2.2.1.2.2.2.2.2.1 i _ hi) d K
theorem s_mmax (hS : SO S own cc) {x y : Int} {ix : Nat} (w1 : Cond.methodLink own ix Lib.Math.max.name ∈ gw_) (w2 : Cond.static Lib.Math.max.name ∈ gw_) (w3 : Cond.initialized "java/lang/Math" ∈ gw_) (w4 : Cond.code Lib.Math.max.name Lib.Math.max.code 2 (some .int) ∈ gw_) (hR : 1 ≤ S.2.2.2.2.2.2.1 ∧ 30 ≤ S.2.2.2.2.2.2.2) (hk : k ≤ S.2.2.2.1 ∧ n ≤ S.2.2.2.2.1) (hl : st.length ≤ 4) (d : decode cc pc = .ok (.invokestatic ix, 3)) (kk : Sim S (pc + 3) ls ((0, m_max x y) :: st) k n h o) : Sim S pc ls ((0, y) :: (0, x) :: st) k n h o := by
  intro r h' ho H locs la hH hf hv
  have K := kk r h' ho H locs la hH hf hv
  have hSR := hS.2.2.2.2.2.2.2.2
  have hcat := sum_cat S.1 st
  have e : i32 (m_max x y) = if i32 x < i32 y then i32 y else i32 x := by
    unfold m_max
    by_cases q : nm x < nm y
    · rw [if_pos q, if_pos ((i32_lt x y).mpr q)]
    · rw [if_neg q, if_neg (fun z => q ((i32_lt x y).mp z))]
  simp only [List.map_cons, gv0, e] at K ⊢
  exact va_mmax hS.1 hS.2.1 (by rw [hS.2.2.1]; exact hv.1.symm) hS.2.2.2.1 (hS.2.2.2.2.1 _ w1) (hS.2.2.2.2.1 _ w2) (hS.2.2.2.2.1 _ w3) (hS.2.2.2.2.1 _ w4) (by omega) (by omega) (by omega) (by omega) d K
theorem s_mmin (hS : SO S own cc) {x y : Int} {ix : Nat} (w1 : Cond.methodLink own ix Lib.Math.min.name ∈ gw_) (w2 : Cond.static Lib.Math.min.name ∈ gw_) (w3 : Cond.initialized "java/lang/Math" ∈ gw_) (w4 : Cond.code Lib.Math.min.name Lib.Math.min.code 2 (some .int) ∈ gw_) (hR : 1 ≤ S.2.2.2.2.2.2.1 ∧ 30 ≤ S.2.2.2.2.2.2.2) (hk : k ≤ S.2.2.2.1 ∧ n ≤ S.2.2.2.2.1) (hl : st.length ≤ 4) (d : decode cc pc = .ok (.invokestatic ix, 3)) (kk : Sim S (pc + 3) ls ((0, m_min x y) :: st) k n h o) : Sim S pc ls ((0, y) :: (0, x) :: st) k n h o := by
  intro r h' ho H locs la hH hf hv
  have K := kk r h' ho H locs la hH hf hv
  have hSR := hS.2.2.2.2.2.2.2.2
  have hcat := sum_cat S.1 st
  have e : i32 (m_min x y) = if i32 y < i32 x then i32 y else i32 x := by
    unfold m_min
    by_cases q : nm y < nm x
    · rw [if_pos q, if_pos ((i32_lt y x).mpr q)]
    · rw [if_neg q, if_neg (fun z => q ((i32_lt y x).mp z))]
  simp only [List.map_cons, gv0, e] at K ⊢
  exact va_mmin hS.1 hS.2.1 (by rw [hS.2.2.1]; exact hv.1.symm) hS.2.2.2.1 (hS.2.2.2.2.1 _ w1) (hS.2.2.2.2.1 _ w2) (hS.2.2.2.2.1 _ w3) (hS.2.2.2.2.1 _ w4) (by omega) (by omega) (by omega) (by omega) d K
theorem s_mabs (hS : SO S own cc) {x : Int} {ix : Nat} (w1 : Cond.methodLink own ix Lib.Math.abs.name ∈ gw_) (w2 : Cond.static Lib.Math.abs.name ∈ gw_) (w3 : Cond.initialized "java/lang/Math" ∈ gw_) (w4 : Cond.code Lib.Math.abs.name Lib.Math.abs.code 1 (some .int) ∈ gw_) (hR : 1 ≤ S.2.2.2.2.2.2.1 ∧ 30 ≤ S.2.2.2.2.2.2.2) (hk : k ≤ S.2.2.2.1 ∧ n ≤ S.2.2.2.2.1) (hl : st.length ≤ 4) (d : decode cc pc = .ok (.invokestatic ix, 3)) (kk : Sim S (pc + 3) ls ((0, m_abs x) :: st) k n h o) : Sim S pc ls ((0, x) :: st) k n h o := by
  intro r h' ho H locs la hH hf hv
  have K := kk r h' ho H locs la hH hf hv
  have hSR := hS.2.2.2.2.2.2.2.2
  have hcat := sum_cat S.1 st
  have e : i32 (m_abs x) = if 0 ≤ i32 x then i32 x else 0 - i32 x := by
    unfold m_abs
    by_cases q : 0 ≤ nm x
    · rw [if_pos q, if_pos (z_ge.mpr q)]
    · rw [if_neg q, if_neg (fun z => q (z_ge.mp z)), i32_sub, i32_0]
  simp only [List.map_cons, gv0, e] at K ⊢
  exact va_mabs hS.1 hS.2.1 (by rw [hS.2.2.1]; exact hv.1.symm) hS.2.2.2.1 (hS.2.2.2.2.1 _ w1) (hS.2.2.2.2.1 _ w2) (hS.2.2.2.2.1 _ w3) (hS.2.2.2.2.1 _ w4) (by omega) (by omega) (by omega) (by omega) d K
end SG
