/-! ===== arrays, new cells ===== -/
theorem i32_cl (z : Int) : (i32 z).toNatClampNeg = (nm z).toNat := by
  show (i32 z).toInt.toNat = _
  rw [i32_nm]
theorem ix_in {z : Int} {N : Nat} (h0 : 0 ≤ nm z) (h1 : (nm z).toNat < N) : ¬ (i32 z < 0 ∨ N ≤ (i32 z).toNatClampNeg) := by
  rw [i32_cl, z_lt]; omega
theorem ar_in {G : GE} {U : State} (hE : EO G U) {t : Int} (h1 : 20 ≤ t) (h2 : t ≤ 26) (n : Nat) (z : Nat → Value) : U.isArrayOf (arrV (G.2.2.2.1 t) n z) (e_ty t) := (hE.2.1 t h1 h2).1 n z
theorem HO_arr {G : GE} {h : AH} {H : Heap} {a t : Int} (hH : HO G h H) (e : h_T h a = t) (ht : 20 ≤ t) : 1 ≤ a ∧ a < h.1 ∧ 0 ≤ h_N h a ∧ h_N h a < 2147483648 ∧ H[g_a G a]? = some (arrV (G.2.2.2.1 t) (h_N h a).toNat (fun j => g_v G (t_t (e_ty t), h_V h a j))) := by
  obtain ⟨a1, a2⟩ := hH.2.2.2.1 a (by omega)
  have := (hH.2.2.2.2 a a1 a2).2 (by omega)
  rw [e] at this
  exact ⟨a1, a2, this⟩
theorem HO_ast {G : GE} {h : AH} {H H' : Heap} {a t i v : Int} (hH : HO G h H) (e : h_T h a = t) (ht : 20 ≤ t) (hi : 0 ≤ i) (w1 : H'[g_a G a]? = some ((arrV (G.2.2.2.1 t) (h_N h a).toNat (fun j => g_v G (t_t (e_ty t), h_V h a j))).setSlot i.toNat (g_v G (t_t (e_ty t), v)))) (hsz : H'.size = H.size) (ho : ∀ q : Nat, q ≠ g_a G a → H'[q]? = H[q]?) : HO G (h_S h a i v) H' := by
  obtain ⟨a1, a2, n0, n1, c1⟩ := HO_arr hH e ht
  refine HO_upd hH rfl (fun _ => rfl) (fun _ => rfl) (fun b j hb => hV_Sa hb) a1 hsz ho fun _ => ⟨fun cj q hq hq2 => ?_, fun _ => ⟨n0, n1, ?_⟩⟩
  · have := cl_lt hq
    rw [hT_S] at hq2
    omega
  · rw [w1, arrV_store, hT_S, hN_S, e]
    congr 2
    funext j
    by_cases hj : j = i.toNat
    · subst hj
      have : ((i.toNat : Nat) : Int) = i := by omega
      simp [updV, hV_S, this]
    · have : ¬ (j : Int) = i := by omega
      simp [updV, hV_S, hj, this]
theorem nar_boolean {v : Int} (h1 : 0 ≤ v) (h2 : v ≤ 1) : narrow .boolean (.int (i32 v)) = .int (i32 v) := by
  rcases (show v = 0 ∨ v = 1 by omega) with rfl | rfl <;> decide +kernel
theorem nar_byte {v : Int} (h1 : -128 ≤ v) (h2 : v ≤ 127) : narrow .byte (.int (i32 v)) = .int (i32 v) := by
  have h : (i32 v).toInt8.toInt32 = i32 v := by
    rw [← Int32.toInt_inj]
    unfold i32
    simp
    rw [show Int8.size = 256 from rfl, show Int32.size = 4294967296 from rfl, Int.bmod_eq_of_le (by omega) (by omega), Int.bmod_eq_of_le (by omega) (by omega)]
  show Value.int _ = _
  rw [h]
section SD
variable {S : SX} {own : String} {cc : ByteArray} {pc : Nat} {ls : List (Nat × Nat × Int)} {st : List (Nat × Int)} {k n : Nat} {h : AH} {o o1 o2 : Option (Int × AH)}
theorem s_alen (hS : SO S own cc) {a t : Int} {f : Int → Option (Int × AH)} (h1 : 20 ≤ t) (h2 : t ≤ 26) (d : decode cc pc = .ok (.arraylength, 1)) (kk : ∀ v : Int, Sim S (pc + 1) ls ((0, v) :: st) k n h (f v)) : Sim S pc ls ((2, a) :: st) k n h ((a_n h t a).bind f) := by
  unfold a_n
  by_cases e : h_T h a = t
  · rw [if_pos e]
    intro r h' ho H locs la hH hf hv
    obtain ⟨a1, a2, n0, n1, c1⟩ := HO_arr hH e h1
    simp only [List.map_cons, gv2 _ (show a ≠ 0 by omega)]
    refine W.alen hS.1 hS.2.1 c1 (ar_in hS.2.2.2.2.2.1 h1 h2 _ _) ?_ rfl rfl d (kk _ r h' ho H locs la hH hf hv)
    rw [arrV_size]
    show Int32.ofNat _ = Int32.ofInt _
    rw [← Int32.ofInt_eq_ofNat, Int.toNat_of_nonneg n0]
  · rw [if_neg e]; exact s_none
theorem s_iald (hS : SO S own cc) {a i : Int} {f : Int → Option (Int × AH)} (d : decode cc pc = .ok (.iaload, 1)) (kk : ∀ v : Int, Sim S (pc + 1) ls ((0, v) :: st) k n h (f v)) : Sim S pc ls ((0, i) :: (2, a) :: st) k n h ((a_g h 20 a i).bind f) := by
  unfold a_g
  by_cases e : h_T h a = 20 ∧ 0 ≤ nm i ∧ nm i < h_N h a
  · rw [if_pos e]
    intro r h' ho H locs la hH hf hv
    obtain ⟨e1, e2, e3⟩ := e
    obtain ⟨a1, a2, n0, n1, c1⟩ := HO_arr hH e1 (by decide)
    simp only [List.map_cons, gv0, gv2 _ (show a ≠ 0 by omega)]
    refine W.iald hS.1 hS.2.1 c1 (ar_in hS.2.2.2.2.2.1 (by decide) (by decide) _ _) (fun q => by cases q) (by rw [arrV_size]; exact ix_in e2 (by omega)) (v := g_v S.1 (0, h_V h a (nm i))) ?_ rfl rfl d (kk _ r h' ho H locs la hH hf hv)
    rw [i32_cl, arrV_read _ _ (by omega), Int.toNat_of_nonneg e2]
    rfl
  · rw [if_neg e]; exact s_none
theorem s_lald (hS : SO S own cc) {a i : Int} {f : Int → Option (Int × AH)} (d : decode cc pc = .ok (.laload, 1)) (kk : ∀ v : Int, Sim S (pc + 1) ls ((1, v) :: st) k n h (f v)) : Sim S pc ls ((0, i) :: (2, a) :: st) k n h ((a_g h 21 a i).bind f) := by
  unfold a_g
  by_cases e : h_T h a = 21 ∧ 0 ≤ nm i ∧ nm i < h_N h a
  · rw [if_pos e]
    intro r h' ho H locs la hH hf hv
    obtain ⟨e1, e2, e3⟩ := e
    obtain ⟨a1, a2, n0, n1, c1⟩ := HO_arr hH e1 (by decide)
    simp only [List.map_cons, gv0, gv2 _ (show a ≠ 0 by omega)]
    refine W.lald hS.1 hS.2.1 c1 (ar_in hS.2.2.2.2.2.1 (by decide) (by decide) _ _) (fun q => by cases q) (by rw [arrV_size]; exact ix_in e2 (by omega)) (v := g_v S.1 (1, h_V h a (nm i))) ?_ rfl rfl d (kk _ r h' ho H locs la hH hf hv)
    rw [i32_cl, arrV_read _ _ (by omega), Int.toNat_of_nonneg e2]
    rfl
  · rw [if_neg e]; exact s_none
theorem s_bald (hS : SO S own cc) {a i : Int} {f : Int → Option (Int × AH)} (d : decode cc pc = .ok (.baload, 1)) (kk : ∀ v : Int, Sim S (pc + 1) ls ((0, v) :: st) k n h (f v)) : Sim S pc ls ((0, i) :: (2, a) :: st) k n h ((a_g h 22 a i).bind f) := by
  unfold a_g
  by_cases e : h_T h a = 22 ∧ 0 ≤ nm i ∧ nm i < h_N h a
  · rw [if_pos e]
    intro r h' ho H locs la hH hf hv
    obtain ⟨e1, e2, e3⟩ := e
    obtain ⟨a1, a2, n0, n1, c1⟩ := HO_arr hH e1 (by decide)
    simp only [List.map_cons, gv0, gv2 _ (show a ≠ 0 by omega)]
    refine W.bald hS.1 hS.2.1 c1 (ar_in hS.2.2.2.2.2.1 (by decide) (by decide) _ _) (fun q => by cases q) (by rw [arrV_size]; exact ix_in e2 (by omega)) (v := g_v S.1 (0, h_V h a (nm i))) ?_ rfl rfl d (kk _ r h' ho H locs la hH hf hv)
    rw [i32_cl, arrV_read _ _ (by omega), Int.toNat_of_nonneg e2]
    rfl
  · rw [if_neg e]; exact s_none
theorem s_zald (hS : SO S own cc) {a i : Int} {f : Int → Option (Int × AH)} (d : decode cc pc = .ok (.baload, 1)) (kk : ∀ v : Int, Sim S (pc + 1) ls ((0, v) :: st) k n h (f v)) : Sim S pc ls ((0, i) :: (2, a) :: st) k n h ((a_g h 23 a i).bind f) := by
  unfold a_g
  by_cases e : h_T h a = 23 ∧ 0 ≤ nm i ∧ nm i < h_N h a
  · rw [if_pos e]
    intro r h' ho H locs la hH hf hv
    obtain ⟨e1, e2, e3⟩ := e
    obtain ⟨a1, a2, n0, n1, c1⟩ := HO_arr hH e1 (by decide)
    simp only [List.map_cons, gv0, gv2 _ (show a ≠ 0 by omega)]
    refine W.zald hS.1 hS.2.1 c1 (ar_in hS.2.2.2.2.2.1 (by decide) (by decide) _ _) (fun q => by cases q) (by rw [arrV_size]; exact ix_in e2 (by omega)) (v := g_v S.1 (0, h_V h a (nm i))) ?_ rfl rfl d (kk _ r h' ho H locs la hH hf hv)
    rw [i32_cl, arrV_read _ _ (by omega), Int.toNat_of_nonneg e2]
    rfl
  · rw [if_neg e]; exact s_none
theorem s_aald (hS : SO S own cc) {a i t : Int} {f : Int → Option (Int × AH)} (h1 : 24 ≤ t) (h2 : t ≤ 26) (d : decode cc pc = .ok (.aaload, 1)) (kk : ∀ v : Int, Sim S (pc + 1) ls ((2, v) :: st) k n h (f v)) : Sim S pc ls ((0, i) :: (2, a) :: st) k n h ((a_g h t a i).bind f) := by
  unfold a_g
  by_cases e : h_T h a = t ∧ 0 ≤ nm i ∧ nm i < h_N h a
  · rw [if_pos e]
    intro r h' ho H locs la hH hf hv
    obtain ⟨e1, e2, e3⟩ := e
    obtain ⟨a1, a2, n0, n1, c1⟩ := HO_arr hH e1 (by omega)
    have h3 : (e_ty t).isReference = true ∧ t_t (e_ty t) = 2 := by
      rcases (show t = 24 ∨ t = 25 ∨ t = 26 by omega) with rfl | rfl | rfl <;> exact ⟨rfl, rfl⟩
    simp only [List.map_cons, gv0, gv2 _ (show a ≠ 0 by omega)]
    refine W.aald hS.1 hS.2.1 c1 (ar_in hS.2.2.2.2.2.1 (by omega) h2 _ _) h3.1 (fun q => by cases q) (by rw [arrV_size]; exact ix_in e2 (by omega)) (v := g_v S.1 (2, h_V h a (nm i))) ?_ rfl rfl d (kk _ r h' ho H locs la hH hf hv)
    rw [i32_cl, arrV_read _ _ (by omega), Int.toNat_of_nonneg e2, h3.2]
  · rw [if_neg e]; exact s_none
theorem s_iast (hS : SO S own cc) {a i v : Int} {f : AH → Option (Int × AH)} (d : decode cc pc = .ok (.iastore, 1)) (kk : ∀ h2 : AH, Sim S (pc + 1) ls st k n h2 (f h2)) : Sim S pc ls ((0, v) :: (0, i) :: (2, a) :: st) k n h ((a_s h 20 a i v).bind f) := by
  unfold a_s
  by_cases e : h_T h a = 20 ∧ 0 ≤ nm i ∧ nm i < h_N h a
  · rw [if_pos e]
    intro r h' ho H locs la hH hf hv
    obtain ⟨e1, e2, e3⟩ := e
    obtain ⟨a1, a2, n0, n1, c1⟩ := HO_arr hH e1 (by decide)
    simp only [List.map_cons, gv0, gv1, gv2 _ (show a ≠ 0 by omega)]
    refine W.iast hS.1 hS.2.1 c1 (ar_in hS.2.2.2.2.2.1 (by decide) (by decide) _ _) (fun q => by cases q) (by rw [arrV_size]; exact ix_in e2 (by omega)) rfl rfl d fun H1 w1 w2 w3 => ?_
    rw [i32_cl] at w1
    exact kk _ r h' ho H1 _ la (HO_ast hH e1 (by decide) e2 w1 w2 w3) (t_lc hf (ga_ge _ a1)) hv
  · rw [if_neg e]; exact s_none
theorem s_last (hS : SO S own cc) {a i v : Int} {f : AH → Option (Int × AH)} (d : decode cc pc = .ok (.lastore, 1)) (kk : ∀ h2 : AH, Sim S (pc + 1) ls st k n h2 (f h2)) : Sim S pc ls ((1, v) :: (0, i) :: (2, a) :: st) k n h ((a_s h 21 a i v).bind f) := by
  unfold a_s
  by_cases e : h_T h a = 21 ∧ 0 ≤ nm i ∧ nm i < h_N h a
  · rw [if_pos e]
    intro r h' ho H locs la hH hf hv
    obtain ⟨e1, e2, e3⟩ := e
    obtain ⟨a1, a2, n0, n1, c1⟩ := HO_arr hH e1 (by decide)
    simp only [List.map_cons, gv0, gv1, gv2 _ (show a ≠ 0 by omega)]
    refine W.last hS.1 hS.2.1 c1 (ar_in hS.2.2.2.2.2.1 (by decide) (by decide) _ _) (fun q => by cases q) (by rw [arrV_size]; exact ix_in e2 (by omega)) rfl rfl d fun H1 w1 w2 w3 => ?_
    rw [i32_cl] at w1
    exact kk _ r h' ho H1 _ la (HO_ast hH e1 (by decide) e2 w1 w2 w3) (t_lc hf (ga_ge _ a1)) hv
  · rw [if_neg e]; exact s_none
theorem s_bast (hS : SO S own cc) {a i v : Int} {f : AH → Option (Int × AH)} (d : decode cc pc = .ok (.bastore, 1)) (kk : ∀ h2 : AH, Sim S (pc + 1) ls st k n h2 (f h2)) : Sim S pc ls ((0, v) :: (0, i) :: (2, a) :: st) k n h ((a_sb h 22 (-128) 127 a i v).bind f) := by
  unfold a_sb
  by_cases e : h_T h a = 22 ∧ 0 ≤ nm i ∧ nm i < h_N h a ∧ -128 ≤ v ∧ v ≤ 127
  · rw [if_pos e]
    intro r h' ho H locs la hH hf hv
    obtain ⟨e1, e2, e3, e4, e5⟩ := e
    obtain ⟨a1, a2, n0, n1, c1⟩ := HO_arr hH e1 (by decide)
    simp only [List.map_cons, gv0, gv2 _ (show a ≠ 0 by omega)]
    refine W.bast hS.1 hS.2.1 c1 (ar_in hS.2.2.2.2.2.1 (by decide) (by decide) _ _) (fun q => by cases q) (by rw [arrV_size]; exact ix_in e2 (by omega)) rfl rfl d fun H1 w1 w2 w3 => ?_
    rw [i32_cl, nar_byte e4 e5] at w1
    exact kk _ r h' ho H1 _ la (HO_ast hH e1 (by decide) e2 w1 w2 w3) (t_lc hf (ga_ge _ a1)) hv
  · rw [if_neg e]; exact s_none
theorem s_zast (hS : SO S own cc) {a i v : Int} {f : AH → Option (Int × AH)} (d : decode cc pc = .ok (.bastore, 1)) (kk : ∀ h2 : AH, Sim S (pc + 1) ls st k n h2 (f h2)) : Sim S pc ls ((0, v) :: (0, i) :: (2, a) :: st) k n h ((a_sb h 23 0 1 a i v).bind f) := by
  unfold a_sb
  by_cases e : h_T h a = 23 ∧ 0 ≤ nm i ∧ nm i < h_N h a ∧ 0 ≤ v ∧ v ≤ 1
  · rw [if_pos e]
    intro r h' ho H locs la hH hf hv
    obtain ⟨e1, e2, e3, e4, e5⟩ := e
    obtain ⟨a1, a2, n0, n1, c1⟩ := HO_arr hH e1 (by decide)
    simp only [List.map_cons, gv0, gv2 _ (show a ≠ 0 by omega)]
    refine W.zast hS.1 hS.2.1 c1 (ar_in hS.2.2.2.2.2.1 (by decide) (by decide) _ _) (fun q => by cases q) (by rw [arrV_size]; exact ix_in e2 (by omega)) rfl rfl d fun H1 w1 w2 w3 => ?_
    rw [i32_cl, nar_boolean e4 e5] at w1
    exact kk _ r h' ho H1 _ la (HO_ast hH e1 (by decide) e2 w1 w2 w3) (t_lc hf (ga_ge _ a1)) hv
  · rw [if_neg e]; exact s_none
theorem s_aast (hS : SO S own cc) {a i v t c : Int} {f : AH → Option (Int × AH)} {ci N : Nat} {C : String} {T : u_T} (hC : vwCl[ci]? = some (C, T, N)) (hc : (ci : Int) + 1 = c) (hte : e_ty t = .object C) (h1 : 20 ≤ t) (h2 : t ≤ 26) (d : decode cc pc = .ok (.aastore, 1)) (kk : ∀ h2 : AH, Sim S (pc + 1) ls st k n h2 (f h2)) : Sim S pc ls ((2, v) :: (0, i) :: (2, a) :: st) k n h ((a_sr h t c a i v).bind f) := by
  subst hc
  unfold a_sr
  by_cases e : h_T h a = t ∧ 0 ≤ nm i ∧ nm i < h_N h a ∧ h_T h v = (ci : Int) + 1
  · rw [if_pos e]
    intro r h' ho H locs la hH hf hv
    obtain ⟨e1, e2, e3, e4⟩ := e
    obtain ⟨a1, a2, n0, n1, c1⟩ := HO_arr hH e1 h1
    obtain ⟨v1, v2⟩ := hH.2.2.2.1 v (by omega)
    obtain ⟨cell, q1, q2, q3, q4⟩ := (hH.2.2.2.2 v v1 v2).1 ci _ hC e4
    have hcls := (hS.2.2.2.2.2.1.1 ci _ hC).2
    have hRA := (hS.2.2.2.2.2.1.2.1 t h1 h2).2
    rw [hte] at hRA
    obtain ⟨kA, comp, k1, k2, k3, -⟩ := hRA
    have hcomp : comp = S.1.2.2.1.1 ci := Option.some.inj (k3.symm.trans hcls.1)
    subst hcomp
    have hasg := va_assign hcls
    obtain ⟨kC, hkC, -⟩ := hcls.2
    simp only [List.map_cons, gv0, gv2 _ (show a ≠ 0 by omega), gv2 _ (show v ≠ 0 by omega)]
    refine W.aast hS.1 hS.2.1 c1 (fun q h => by cases h) (fun h => by cases h) k1 k2 rfl hkC ⟨fun q => by rw [z_lt] at q; omega, by rw [arrV_size, i32_cl]; omega⟩ q1 (fun q h => by rw [q3] at h; cases h) (by rw [q2]; exact hkC) (by rw [q2]; exact hasg) rfl rfl d fun H1 w1 w2 w3 => ?_
    rw [i32_cl] at w1
    refine kk _ r h' ho H1 _ la (HO_ast hH e1 h1 e2 ?_ w2 w3) (t_lc hf (ga_ge _ a1)) hv
    rw [w1, hte, show t_t (.object C) = 2 from rfl, gv2 _ (show v ≠ 0 by omega)]
  · rw [if_neg e]; exact s_none
end SD
theorem HO_new {G : GE} {h : AH} {H H' : Heap} {t len : Int} (hH : HO G h H) (hsz : H'.size = H.size + 1) (ho : ∀ q : Nat, q < H.size → H'[q]? = H[q]?) (ht : t ≠ 0) (hc : g_a G h.1 = H.size → HC G (h_A h t len) H' h.1) : HO G (h_A h t len) H' := by
  obtain ⟨p1, p2, p3, p4, p5⟩ := hH
  have hg : g_a G h.1 = H.size := by rw [ga_pos G p1, p2]
  have eT : ∀ b, b ≠ h.1 → h_T (h_A h t len) b = h_T h b := fun b hb => by show (if b = h.1 then t else h.2.1 b) = _; rw [if_neg hb]; rfl
  have eN : ∀ b, b ≠ h.1 → h_N (h_A h t len) b = h_N h b := fun b hb => by show (if b = h.1 then len else h.2.2.1 b) = _; rw [if_neg hb]; rfl
  have eV : ∀ b j, b ≠ h.1 → h_V (h_A h t len) b j = h_V h b j := fun b j hb => by show (if b = h.1 then 0 else h.2.2.2 b j) = _; rw [if_neg hb]; rfl
  refine ⟨by show 1 ≤ h.1 + 1; omega, by rw [hsz, p2]; show _ = G.1 + (h.1 + 1 - 1).toNat; omega, fun q hq => by rw [ho q (by omega)]; exact p3 q hq, fun b hb => ?_, fun b h1 h2 => ?_⟩
  · show 1 ≤ b ∧ b < h.1 + 1
    by_cases e : b = h.1
    · omega
    · rw [eT b e] at hb
      have := p4 b hb
      omega
  · replace h2 : b < h.1 + 1 := h2
    by_cases e : b = h.1
    · subst e; exact hc hg
    · refine HC_other h1 (p5 b h1 (by omega)) (eT b e) (eN b e) (fun j => eV b j e) (ho _ ?_)
      rw [ga_pos G h1, p2]; omega
theorem hA_T (h : AH) (t len : Int) : h_T (h_A h t len) h.1 = t := by show (if h.1 = h.1 then t else _) = _; rw [if_pos rfl]
theorem hA_N (h : AH) (t len : Int) : h_N (h_A h t len) h.1 = len := by show (if h.1 = h.1 then len else _) = _; rw [if_pos rfl]
theorem hA_V (h : AH) (t len j : Int) : h_V (h_A h t len) h.1 j = 0 := by show (if h.1 = h.1 then 0 else _) = _; rw [if_pos rfl]
section SE
variable {S : SX} {own : String} {cc : ByteArray} {pc : Nat} {ls : List (Nat × Nat × Int)} {st : List (Nat × Int)} {k n : Nat} {h : AH} {o o1 o2 : Option (Int × AH)}
theorem s_new (hS : SO S own cc) {ci ix N : Nat} {C : String} {T : u_T} {tag : Int} (hC : cow_ ci C T N) (e1 : (ci : Int) + 1 = tag) (w1 : Cond.classLink own ix C ∈ gw_) (w2 : Cond.instantiable C N ∈ gw_) (w3 : Cond.initialized C ∈ gw_) (hk : k + 1 ≤ S.2.2.2.1) (hn : n + N ≤ S.2.2.2.2.1) (d : decode cc pc = .ok (.new ix, 3))
    (kk : Sim S (pc + 3) ls ((2, h_x h) :: st) (k + 1) (n + N) (h_A h tag 0) o) : Sim S pc ls st k n h o := by
  subst e1
  intro r h' ho H locs la hH hf hv
  have hKn := hS.2.2.2.2.2.1.1 ci _ hC.1
  have hR := hS.2.2.2.2.2.2.2.2
  refine W.newcK hS.1 hS.2.1 hS.2.2.2.1 (hS.2.2.2.2.1 _ w1) (hS.2.2.2.2.1 _ w2) (hS.2.2.2.2.1 _ w3) rfl d (by omega) (by omega) hKn.2.1 rfl fun H1 kC hkC c1 z1 o1 => ?_
  have hg : g_a S.1 h.1 = H.size := by rw [ga_pos _ hH.1, hH.2.1]
  have hO : HO S.1 (h_A h ((ci : Int) + 1) 0) H1 := HO_new hH z1 o1 (by omega) fun _ => ⟨fun cj q hq ht => ?_, fun ht => ?_⟩
  · have K := kk r h' ho H1 locs la hO hf hv
    simp only [List.map_cons, gv2 _ (show h_x h ≠ 0 from fun q => by have := hH.1; have e : h_x h = h.1 := rfl; omega)] at K
    rw [show h_x h = h.1 from rfl, hg] at K
    exact K
  · rw [hA_T] at ht
    have hcj : cj = ci := by omega
    subst hcj
    rw [hC.1] at hq
    cases hq
    rw [hg]
    refine (u_born (k_ty cj) hS.2.2.2.2.1 hC.2.1 hKn hkC c1 hC.2.2.1).to fun j hj => ?_
    rw [hA_V]
    exact dv_ok _ (hC.2.2.2.2 j hj)
  · rw [hA_T] at ht
    have := cl_lt hC.1
    omega
theorem s_newa (hS : SO S own cc) {t z mx : Int} {at_ : ArrayType} {M : Nat} {f : AH → Option (Int × AH)} (hty : newarray.typeOf at_ = e_ty t) (h1 : 20 ≤ t) (h2 : t ≤ 23) (hM : mx = (M : Int)) (hb : M ≤ 100000) (w1 : Cond.arrayClass (newarray.typeOf at_) ∈ gw_) (hk : k + 1 ≤ S.2.2.2.1) (hn : n + M ≤ S.2.2.2.2.1) (d : decode cc pc = .ok (.newarray at_, 2))
    (kk : ∀ h2 : AH, Sim S (pc + 2) ls ((2, h_x h) :: st) (k + 1) (n + M) h2 (f h2)) : Sim S pc ls ((0, z) :: st) k n h ((n_a h t z mx).bind f) := by
  subst hM
  unfold n_a
  by_cases e : 0 ≤ nm z ∧ nm z ≤ (M : Int)
  · rw [if_pos e]
    intro r h' ho H locs la hH hf hv
    have hR := hS.2.2.2.2.2.2.2.2
    have hcb : componentBytes (newarray.typeOf at_) ≤ 8 := by cases at_ <;> decide
    have hRA := (hS.2.2.2.2.2.1.2.1 t h1 (by omega)).2
    have hg : g_a S.1 h.1 = H.size := by rw [ga_pos _ hH.1, hH.2.1]
    refine va_newaK hS.1 hS.2.1 (hS.2.2.2.2.1 _ w1) rfl d (n := i32 z) (N := (nm z).toNat) rfl (by rw [z_lt]; omega) (i32_cl z) ?_ (by omega) (by omega) rfl fun H1 cA c1 z1 o1 hAr hNm => ?_
    · have : (nm z).toNat * componentBytes (newarray.typeOf at_) ≤ 100000 * 8 := Nat.mul_le_mul (by omega) hcb
      omega
    have hcA : cA = S.1.2.2.2.1 t := by
      rw [hty] at hNm
      have h3 : S.2.1.2.2.2.2.1.vm.findClass ("[" ++ (e_ty t).toString) = some (S.1.2.2.2.1 t) := by
        rcases (show t = 20 ∨ t = 21 ∨ t = 22 ∨ t = 23 by omega) with rfl | rfl | rfl | rfl <;> exact hRA
      exact Option.some.inj (hNm.symm.trans h3)
    have hO : HO S.1 (h_A h t (nm z)) H1 := HO_new hH z1 o1 (by omega) fun _ => ⟨fun cj q hq ht => ?_, fun ht => ?_⟩
    · refine W.widen (k := k + 1) (n := n + M) (Nat.le_refl _) (by omega) ?_
      have K := kk _ r h' ho H1 locs la hO hf hv
      simp only [List.map_cons, gv2 _ (show h_x h ≠ 0 from fun q => by have := hH.1; have e : h_x h = h.1 := rfl; omega)] at K
      rw [show h_x h = h.1 from rfl, hg] at K
      exact K
    · rw [hA_T] at ht
      have := cl_lt hq
      omega
    · rw [hA_T, hA_N, hg]
      refine ⟨e.1, nm_hi z, ?_⟩
      rw [c1, hcA, hty]
      congr 2
      funext j
      rw [hA_V]
      refine dv_ok _ ?_
      rcases (show t = 20 ∨ t = 21 ∨ t = 22 ∨ t = 23 by omega) with rfl | rfl | rfl | rfl <;> rfl
  · rw [if_neg e]; exact s_none
theorem s_newq (hS : SO S own cc) {t z mx : Int} {ix : Nat} {C : String} {M : Nat} {f : AH → Option (Int × AH)} (hty : e_ty t = .object C) (h1 : 24 ≤ t) (h2 : t ≤ 26) (hM : mx = (M : Int)) (hb : M ≤ 100000) (hAO : ∀ U : State, EO S.1 U → va_AO C U) (w1 : Cond.classLink own ix C ∈ gw_) (hk : k + 1 ≤ S.2.2.2.1) (hn : n + M ≤ S.2.2.2.2.1) (d : decode cc pc = .ok (.anewarray ix, 3))
    (kk : ∀ h2 : AH, Sim S (pc + 3) ls ((2, h_x h) :: st) (k + 1) (n + M) h2 (f h2)) : Sim S pc ls ((0, z) :: st) k n h ((n_a h t z mx).bind f) := by
  subst hM
  unfold n_a
  by_cases e : 0 ≤ nm z ∧ nm z ≤ (M : Int)
  · rw [if_pos e]
    intro r h' ho H locs la hH hf hv
    have hR := hS.2.2.2.2.2.2.2.2
    have hRA := (hS.2.2.2.2.2.1.2.1 t (by omega) h2).2
    rw [hty] at hRA
    have hg : g_a S.1 h.1 = H.size := by rw [ga_pos _ hH.1, hH.2.1]
    refine W.anew hS.1 hS.2.1 hS.2.2.2.1 (hS.2.2.2.2.1 _ w1) (va_AO.use (hAO _ hS.2.2.2.2.2.1)) rfl d (n := i32 z) rfl (by rw [z_lt]; omega) (by rw [i32_cl]; omega) (by omega) (by rw [i32_cl]; omega) fun cA kA comp f1 f2 f3 f4 => ?_
    generalize hH1 : H.push ({ cls := cA, slots := Array.replicate (i32 z).toNatClampNeg .null, vm := .none } : Cell) = H1
    have z1 : H1.size = H.size + 1 := by rw [← hH1, Array.size_push]
    have c1 : H1[H.size]? = some (arrV cA (nm z).toNat (fun _ => .null)) := by rw [← hH1, Array.getElem?_push_size, ← arrV_new, i32_cl]
    have o1 : ∀ q : Nat, q < H.size → H1[q]? = H[q]? := fun q hq => by rw [← hH1, Array.getElem?_push, if_neg (Nat.ne_of_lt hq)]
    have hcA : cA = S.1.2.2.2.1 t := by
      obtain ⟨_, _, _, _, _, h3⟩ := hRA
      exact Option.some.inj (f1.symm.trans h3)
    have hO : HO S.1 (h_A h t (nm z)) H1 := HO_new hH z1 o1 (by omega) fun _ => ⟨fun cj q hq ht => ?_, fun ht => ?_⟩
    · refine W.widen (k := k + 1) (n := n + M) (Nat.le_refl _) (by rw [i32_cl]; omega) ?_
      have K := kk _ r h' ho H1 locs la hO hf hv
      simp only [List.map_cons, gv2 _ (show h_x h ≠ 0 from fun q => by have := hH.1; have e : h_x h = h.1 := rfl; omega)] at K
      rw [show h_x h = h.1 from rfl, hg] at K
      exact K
    · rw [hA_T] at ht
      have := cl_lt hq
      omega
    · rw [hA_T, hA_N, hg]
      refine ⟨e.1, nm_hi z, ?_⟩
      rw [c1, hcA, hty]
      congr 2
      funext j
      rw [hA_V]
      rfl
  · rw [if_neg e]; exact s_none
-- returns
theorem s_iret (hS : SO S own cc) {z : Int} (hr : S.2.2.2.2.2.1 = some .int) (hk : k ≤ S.2.2.2.1) (hn : n ≤ S.2.2.2.2.1) (d : decode cc pc = .ok (.ireturn, 1)) : Sim S pc ls [(0, z)] k n h (some (z, h)) := by
  intro r h' ho H locs la hH hf hv
  cases ho
  refine W.widen hk hn ?_
  exact W.iret hS.1 hS.2.1 (hS.2.2.2.2.2.2.1.trans hr) (fun t ht _ => ⟨by rw [hr]; rfl, by rw [ht]; exact hH⟩) hf d hS.2.2.2.2.2.2.2.1
theorem s_zret (hS : SO S own cc) {z : Int} (hr : S.2.2.2.2.2.1 = some .boolean) (hk : k ≤ S.2.2.2.1) (hn : n ≤ S.2.2.2.2.1) (d : decode cc pc = .ok (.ireturn, 1)) : Sim S pc ls [(0, z)] k n h (c_b z (some (z, h))) := by
  unfold c_b
  by_cases e : z = 0 ∨ z = 1
  · rw [if_pos e]
    intro r h' ho H locs la hH hf hv
    cases ho
    refine W.widen hk hn ?_
    exact W.zret hS.1 hS.2.1 (hS.2.2.2.2.2.2.1.trans hr) (nf_ok S.1 (ty := .boolean) z (Or.inr (Or.inr (Or.inr (Or.inr ⟨rfl, e⟩))))).1 (fun t ht _ => ⟨by rw [hr]; rfl, by rw [ht]; exact hH⟩) hf d hS.2.2.2.2.2.2.2.1
  · rw [if_neg e]; exact s_none
theorem s_lret (hS : SO S own cc) {z : Int} (hr : S.2.2.2.2.2.1 = some .long) (hk : k ≤ S.2.2.2.1) (hn : n ≤ S.2.2.2.2.1) (d : decode cc pc = .ok (.lreturn, 1)) : Sim S pc ls [(1, z)] k n h (some (z, h)) := by
  intro r h' ho H locs la hH hf hv
  cases ho
  refine W.widen hk hn ?_
  exact W.lret hS.1 hS.2.1 (hS.2.2.2.2.2.2.1.trans hr) (fun t ht _ => ⟨by rw [hr]; rfl, by rw [ht]; exact hH⟩) hf d hS.2.2.2.2.2.2.2.1
theorem s_vret (hS : SO S own cc) (hr : S.2.2.2.2.2.1 = none) (hk : k ≤ S.2.2.2.1) (hn : n ≤ S.2.2.2.2.1) (d : decode cc pc = .ok (.return_, 1)) : Sim S pc ls [] k n h (some (0, h)) := by
  intro r h' ho H locs la hH hf hv
  cases ho
  refine W.widen hk hn ?_
  exact W.vret hS.1 hS.2.1 (hS.2.2.2.2.2.2.1.trans hr) (fun t ht _ => ⟨by rw [hr]; rfl, by rw [ht]; exact hH⟩) hf d hS.2.2.2.2.2.2.2.1
theorem s_aret (hS : SO S own cc) {z : Int} {ty : FieldType} (hr : S.2.2.2.2.2.1 = some ty) (hty : (∃ C, ty = .object C) ∨ ∃ t, ty = .array t) (hk : k ≤ S.2.2.2.1) (hn : n ≤ S.2.2.2.2.1) (d : decode cc pc = .ok (.areturn, 1)) : Sim S pc ls [(2, z)] k n h (some (z, h)) := by
  intro r h' ho H locs la hH hf hv
  cases ho
  refine W.widen hk hn ?_
  have e2 : t_t ty = 2 := by rcases hty with ⟨_, rfl⟩ | ⟨_, rfl⟩ <;> rfl
  refine W.aret (v := g_v S.1 (2, z)) hS.1 hS.2.1 (hS.2.2.2.2.2.2.1.trans hr) hty ?_ (fun t ht _ => ⟨by rw [hr]; show _ = Outcome.returned (some (g_v S.1 (t_t ty, z))); rw [e2], by rw [ht]; exact hH⟩) hf d hS.2.2.2.2.2.2.2.1
  by_cases e : z = 0
  · subst e; exact Or.inl rfl
  · exact Or.inr ⟨_, gv2 _ e⟩
end SE
