/-! ===== loops, new cells by name, arraycopy, literals ===== -/
section SG
variable {S : SX} {own : String} {cc : ByteArray} {pc : Nat} {ls : List (Nat × Nat × Int)} {st : List (Nat × Int)} {k n : Nat} {h : AH} {o : Option (Int × AH)}
theorem s_loop {σ : Type} {F : (σ → Option (Int × AH)) → σ → Option (Int × AH)} {lsf : σ → List (Nat × Nat × Int)} {hf : σ → AH} (hF : ∀ kf : σ → Option (Int × AH), (∀ s, Sim S pc (lsf s) [] k n (hf s) (kf s)) → ∀ s, Sim S pc (lsf s) [] k n (hf s) (F kf s)) : ∀ (m : Nat) (s : σ), Sim S pc (lsf s) [] k n (hf s) (it_ F m s)
  | 0, _ => s_none
  | m + 1, s => hF (it_ F m) (fun s => s_loop hF m s) s
theorem s_newb (hS : SO S own cc) {ci ix N : Nat} {C : String} {T : u_T} {tag : Int} {f : Int → AH → Option (Int × AH)} (hC : co_ ci C T N) (e1 : (ci : Int) + 1 = tag) (w1 : Cond.classLink own ix C ∈ gw_) (w2 : Cond.instantiable C N ∈ gw_) (w3 : Cond.initialized C ∈ gw_) (hk : k + 1 ≤ S.2.2.2.1) (hn : n + N ≤ S.2.2.2.2.1) (d : decode cc pc = .ok (.new ix, 3))
    (kk : ∀ (x : Int) (h2 : AH), Sim S (pc + 3) ls ((2, x) :: st) (k + 1) (n + N) h2 (f x h2)) : Sim S pc ls st k n h ((some (h_x h)).bind fun x => (some (h_A h tag 0)).bind fun h2 => f x h2) :=
  s_new hS hC e1 w1 w2 w3 hk hn d (kk _ _)
theorem s_newab (hS : SO S own cc) {t z mx : Int} {at_ : ArrayType} {M : Nat} {f : Int → AH → Option (Int × AH)} (hty : newarray.typeOf at_ = e_ty t) (h1 : 20 ≤ t) (h2 : t ≤ 23) (hM : mx = (M : Int)) (hb : M ≤ 100000) (w1 : Cond.arrayClass (newarray.typeOf at_) ∈ gw_) (hk : k + 1 ≤ S.2.2.2.1) (hn : n + M ≤ S.2.2.2.2.1) (d : decode cc pc = .ok (.newarray at_, 2))
    (kk : ∀ (x : Int) (h2 : AH), Sim S (pc + 2) ls ((2, x) :: st) (k + 1) (n + M) h2 (f x h2)) : Sim S pc ls ((0, z) :: st) k n h ((some (h_x h)).bind fun x => (n_a h t z mx).bind fun h2 => f x h2) :=
  s_newa hS hty h1 h2 hM hb w1 hk hn d (kk _)
theorem s_newqb (hS : SO S own cc) {t z mx : Int} {ix : Nat} {C : String} {M : Nat} {f : Int → AH → Option (Int × AH)} (hty : e_ty t = .object C) (h1 : 24 ≤ t) (h2 : t ≤ 26) (hM : mx = (M : Int)) (hb : M ≤ 100000) (hAO : ∀ U : State, EO S.1 U → va_AO C U) (w1 : Cond.classLink own ix C ∈ gw_) (hk : k + 1 ≤ S.2.2.2.1) (hn : n + M ≤ S.2.2.2.2.1) (d : decode cc pc = .ok (.anewarray ix, 3))
    (kk : ∀ (x : Int) (h2 : AH), Sim S (pc + 3) ls ((2, x) :: st) (k + 1) (n + M) h2 (f x h2)) : Sim S pc ls ((0, z) :: st) k n h ((some (h_x h)).bind fun x => (n_a h t z mx).bind fun h2 => f x h2) :=
  s_newq hS hty h1 h2 hM hb hAO w1 hk hn d (kk _)
theorem ao_24 : ∀ U : State, EO S.1 U → va_AO RX3 U := fun _ h => h.2.2.2.1.1
theorem ao_25 : ∀ U : State, EO S.1 U → va_AO RX0 U := fun _ h => h.2.2.2.1.2.1
theorem ao_26 : ∀ U : State, EO S.1 U → va_AO RX5 U := fun _ h => h.2.2.2.1.2.2
theorem i64_neg (x : Int) : i64 (-x) = -i64 x := Int64.ofInt_neg ..
theorem s_lneg (hS : SO S own cc) {x : Int} (d : decode cc pc = .ok (.lneg, 1)) (kk : Sim S (pc + 1) ls ((1, -x) :: st) k n h o) : Sim S pc ls ((1, x) :: st) k n h o := by
  intro r h' ho H locs la hH hf hv
  have K := kk r h' ho H locs la hH hf hv
  simp only [List.map_cons, gv1, i64_neg] at K ⊢
  exact lv_lneg hS.1 hS.2.1 d K
theorem s_str (hS : SO S own cc) (i : Nat) {ix : Nat} {tx : String} {z : Int} (hi : sx_[i]? = some (own, ix, tx)) (d : decode cc pc = .ok (.ldc ix, 2)) (kk : Sim S (pc + 2) ls ((2, -((i : Int) + 1)) :: st) k n h o) : Sim S pc ls st k n h o := by
  intro r h' ho H locs la hH hf hv
  have K := kk r h' ho H locs la hH hf hv
  have e : g_v S.1 (2, -((i : Int) + 1)) = .ref (S.1.2.1 i) := by
    rw [gv2 _ (by omega)]
    unfold g_a
    rw [if_neg (by omega), show (-(-((i : Int) + 1)) - 1).toNat = i by omega]
  simp only [List.map_cons, e] at K
  exact va_ldcS hS.1 hS.2.1 hS.2.2.2.1 (hS.2.2.2.2.2.1.2.2.2.2.2.1 i _ hi) d K
theorem s_acopy (hS : SO S own cc) {t sa sp da dp z : Int} {ix : Nat} {f : AH → Option (Int × AH)} (ht : t = 20 ∨ t = 21) (w1 : Cond.methodLink own ix arraycopyName ∈ gw_) (w2 : Cond.native arraycopyName ∈ gw_) (w3 : Cond.static arraycopyName ∈ gw_) (w4 : Cond.initialized "java/lang/System" ∈ gw_) (hR : 1 ≤ S.2.2.2.2.2.2.1 ∧ 60 ≤ S.2.2.2.2.2.2.2) (hl : st.length ≤ 4) (d : decode cc pc = .ok (.invokestatic ix, 3))
    (kk : ∀ h2 : AH, Sim S (pc + 3) ls st k n h2 (f h2)) : Sim S pc ls ((0, z) :: (0, dp) :: (2, da) :: (0, sp) :: (2, sa) :: st) k n h ((a_c h t sa sp da dp z).bind f) := by
  sorry
theorem s_slen (hS : SO S own cc) {z : Int} {ix : Nat} {f : Int → Option (Int × AH)} (w1 : Cond.methodLink own ix yJ0_length_8abf5 ∈ gw_) (hR : 9 ≤ S.2.2.2.2.2.2.1 ∧ 300 ≤ S.2.2.2.2.2.2.2) (hl : st.length ≤ 4) (d : decode cc pc = .ok (.invokevirtual ix, 3))
    (kk : ∀ v : Int, Sim S (pc + 3) ls ((0, v) :: st) k n h (f v)) : Sim S pc ls ((2, z) :: st) k n h ((x_n z).bind f) := by
  sorry
theorem s_schr (hS : SO S own cc) {z i : Int} {ix : Nat} {f : Int → Option (Int × AH)} (w1 : Cond.methodLink own ix yJ0_charAt_5068e ∈ gw_) (hR : 9 ≤ S.2.2.2.2.2.2.1 ∧ 300 ≤ S.2.2.2.2.2.2.2) (hl : st.length ≤ 4) (d : decode cc pc = .ok (.invokevirtual ix, 3))
    (kk : ∀ v : Int, Sim S (pc + 3) ls ((0, v) :: st) k n h (f v)) : Sim S pc ls ((0, i) :: (2, z) :: st) k n h ((x_c z i).bind f) := by
  sorry
end SG
