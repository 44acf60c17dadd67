/-! ===== fields, arrays, new cells ===== -/
theorem ga_pos (G : GE) {a : Int} (h : 1 ≤ a) : g_a G a = G.1 + (a - 1).toNat := by
  unfold g_a; rw [if_pos (by omega)]
theorem ga_ne (G : GE) {a b : Int} (h : 1 ≤ a) (h' : 1 ≤ b) (hn : b ≠ a) : g_a G b ≠ g_a G a := by
  rw [ga_pos G h, ga_pos G h']; omega
theorem ga_ge (G : GE) {a : Int} (h : 1 ≤ a) : frw_ G (g_a G a) := by
  unfold frw_; rw [ga_pos G h]; omega
theorem hT_S (h : AH) (a i v b : Int) : h_T (h_S h a i v) b = h_T h b := rfl
theorem hN_S (h : AH) (a i v b : Int) : h_N (h_S h a i v) b = h_N h b := rfl
theorem hV_S (h : AH) (a i v b j : Int) : h_V (h_S h a i v) b j = if b = a ∧ j = i then v else h_V h b j := rfl
theorem hV_Sa {h : AH} {a i v b j : Int} (e : b ≠ a) : h_V (h_S h a i v) b j = h_V h b j := by rw [hV_S, if_neg (fun q => e q.1)]
theorem HC_other {G : GE} {h h2 : AH} {H H' : Heap} {b : Int} (hb : 1 ≤ b) (c : HC G h H b) (hT : h_T h2 b = h_T h b) (hN : h_N h2 b = h_N h b) (hV : ∀ j, h_V h2 b j = h_V h b j) (e : H'[g_a G b]? = H[g_a G b]?) : HC G h2 H' b := by
  refine ⟨fun ci q hq ht => ?_, fun ht => ?_⟩
  · rw [hT] at ht
    refine ((c.1 ci q hq ht).kept e).to fun k _ => by rw [hV]
  · rw [hT] at ht ⊢
    rw [hN, e]
    have := c.2 ht
    refine ⟨this.1, this.2.1, ?_⟩
    rw [this.2.2]
    simp only [hV]
/-- one cell has changed -/
theorem HO_upd {G : GE} {h h2 : AH} {H H' : Heap} {a : Int} (hH : HO G h H) (e1 : h2.1 = h.1) (eT : ∀ b, h_T h2 b = h_T h b) (eN : ∀ b, h_N h2 b = h_N h b) (eV : ∀ b j, b ≠ a → h_V h2 b j = h_V h b j) (ha : 1 ≤ a) (hsz : H'.size = H.size) (ho : ∀ q : Nat, q ≠ g_a G a → H'[q]? = H[q]?) (hc : a < h.1 → HC G h2 H' a) : HO G h2 H' := by
  obtain ⟨p1, p2, p3, p4, p5⟩ := hH
  refine ⟨by rw [e1]; exact p1, by rw [hsz, e1]; exact p2, fun q hq => ?_, fun b hb => by rw [eT] at hb; rw [e1]; exact p4 b hb, fun b h1 h2' => ?_⟩
  · rw [ho q (by rw [ga_pos G ha]; omega)]; exact p3 q hq
  · rw [e1] at h2'
    by_cases e : b = a
    · subst e; exact hc h2'
    · exact HC_other h1 (p5 b h1 h2') (eT b) (eN b) (fun j => eV b j e) (ho _ (ga_ne G ha h1 e))
def ok_t : FieldType → Bool
  | .float => false
  | .double => false
  | _ => true
theorem dv_ok (G : GE) {ty : FieldType} (h : ok_t ty = true) : defaultValue ty = g_v G (t_t ty, 0) := by
  cases ty <;> first | rfl | cases h
/-- a class of the table -/
def cow_ (ci : Nat) (C : String) (T : u_T) (N : Nat) : Prop := vwCl[ci]? = some (C, T, N) ∧ (∀ w ∈ u_ws C T N, w ∈ gw_) ∧ (∀ k, k < N → parseFieldDescriptor (T k).2.2.1 = some (k_ty ci k)) ∧ (∀ a, a < N → ∀ b, b < N → a ≠ b → (T a).2.1 ≠ (T b).2.1) ∧ ∀ k, k < N → ok_t (k_ty ci k) = true
theorem tag_inj {ci cj : Nat} {t : Int} (h1 : t = (ci : Int) + 1) (h2 : t = (cj : Int) + 1) : ci = cj := by omega
theorem cl_lt {ci : Nat} {q : vw_C} (h : vwCl[ci]? = some q) : ci < 11 := (List.getElem?_eq_some_iff.mp h).1
theorem nf_ok (G : GE) {ty : FieldType} (z : Int) (h : ty = .int ∨ ty = .long ∨ (∃ C, ty = .object C) ∨ (∃ t, ty = .array t) ∨ (ty = .boolean ∧ (z = 0 ∨ z = 1))) : narrow ty (g_v G (t_t ty, z)) = g_v G (t_t ty, z) ∧ fits ty (g_v G (t_t ty, z)) = true := by
  rcases h with rfl | rfl | ⟨C, rfl⟩ | ⟨t, rfl⟩ | ⟨rfl, rfl | rfl⟩
  · exact ⟨rfl, rfl⟩
  · exact ⟨rfl, rfl⟩
  · by_cases e : z = 0
    · subst e; exact ⟨rfl, rfl⟩
    · rw [show t_t (.object C) = 2 from rfl, gv2 _ e]; exact ⟨rfl, rfl⟩
  · by_cases e : z = 0
    · subst e; exact ⟨rfl, rfl⟩
    · rw [show t_t (.array t) = 2 from rfl, gv2 _ e]; exact ⟨rfl, rfl⟩
  · show narrow .boolean (.int (i32 0)) = .int (i32 0) ∧ fits .boolean (.int (i32 0)) = true
    decide +kernel
  · show narrow .boolean (.int (i32 1)) = .int (i32 1) ∧ fits .boolean (.int (i32 1)) = true
    decide +kernel
section SC
variable {S : SX} {own : String} {cc : ByteArray} {pc : Nat} {ls : List (Nat × Nat × Int)} {st : List (Nat × Int)} {k n : Nat} {h : AH} {o o1 o2 : Option (Int × AH)}
theorem s_getf (hS : SO S own cc) {ci ix N : Nat} {C : String} {T : u_T} {a tag ik : Int} {tg : Nat} {f : Int → Option (Int × AH)} (hC : cow_ ci C T N) (fk : Nat) (hk : fk < N) (hw : Cond.fieldLink own ix (T fk).1 (T fk).2.1 (T fk).2.2.1 ∈ gw_) (htg : t_t (k_ty ci fk) = tg) (e1 : (ci : Int) + 1 = tag) (e2 : (fk : Int) = ik) (d : decode cc pc = .ok (.getfield ix, 3))
    (kk : ∀ v : Int, Sim S (pc + 3) ls ((tg, v) :: st) k n h (f v)) : Sim S pc ls ((2, a) :: st) k n h ((g_f h tag a ik).bind f) := by
  subst e1; subst e2; subst htg
  unfold g_f
  by_cases e : h_T h a = (ci : Int) + 1
  · rw [if_pos e]
    intro r h' ho H locs la hH hf hv
    obtain ⟨a1, a2⟩ := hH.2.2.2.1 a (by omega)
    obtain ⟨cell, q1, q2, q3, q4⟩ := (hH.2.2.2.2 a a1 a2).1 ci _ hC.1 e
    obtain ⟨hSl, hfc, kC, hkC, hkind⟩ := hS.2.2.2.2.2.1.1 ci _ hC.1
    obtain ⟨cf, kf, fi, fd, hi, hsl⟩ := hSl fk hk
    simp only [List.map_cons, gv2 _ (show a ≠ 0 by omega)]
    refine W.getf hS.1 hS.2.1 hS.2.2.2.1 (hS.2.2.2.2.1 _ hw) hi (u_facts hfc hkC (u_lays hS.2.2.2.2.1 hC.2.1 hk) hi).1 q1 (by rw [q3]; exact fun h => by cases h) (v := g_v S.1 (t_t (k_ty ci fk), h_V h a fk)) (by rw [hsl]; exact q4 fk hk) rfl rfl d (kk _ r h' ho H locs la hH hf hv)
  · rw [if_neg e]; exact s_none
/-- behind a store into a field -/
theorem HO_put {G : GE} {h : AH} {H H' : Heap} {ci N fk : Nat} {C : String} {T : u_T} {a v : Int} {iS : Nat → Nat} (hH : HO G h H) (hc : vwCl[ci]? = some (C, T, N)) (e : h_T h a = (ci : Int) + 1) (hk : fk < N) (hap : ∀ x y, x < N → y < N → x ≠ y → G.2.2.1.2 ci x ≠ G.2.2.1.2 ci y)
    {cell : Cell} (q2 : cell.cls = G.2.2.1.1 ci) (q3 : cell.vm = .none) (q4 : ∀ k, k < N → cell.slots[G.2.2.1.2 ci k]? = some (g_v G (t_t (k_ty ci k), h_V h a k))) (w1 : H'[g_a G a]? = some (cell.setSlot (G.2.2.1.2 ci fk) (g_v G (t_t (k_ty ci fk), v)))) (hsz : H'.size = H.size) (ho : ∀ q : Nat, q ≠ g_a G a → H'[q]? = H[q]?) : HO G (h_S h a fk v) H' := by
  obtain ⟨a1, a2⟩ := hH.2.2.2.1 a (by omega)
  refine HO_upd hH rfl (fun _ => rfl) (fun _ => rfl) (fun b j hb => hV_Sa hb) a1 hsz ho fun _ => ⟨fun cj q hq ht => ?_, fun ht => ?_⟩
  · have hcj : cj = ci := tag_inj ht e
    subst hcj
    rw [hc] at hq
    cases hq
    refine t_OB.to (V := updV (fun k => g_v G (t_t (k_ty cj k), h_V h a k)) fk (g_v G (t_t (k_ty cj fk), v))) ⟨_, w1, q2, q3, t_set q4 hap hk _⟩ fun j _ => ?_
    by_cases hj : j = fk
    · subst hj
      simp [updV, hV_S]
    · have : ¬ (j : Int) = fk := by omega
      simp [updV, hV_S, hj, this]
  · have := cl_lt hc
    rw [hT_S] at ht
    omega
theorem co_ap (hS : SO S own cc) {ci N : Nat} {C : String} {T : u_T} (hC : cow_ ci C T N) : ∀ x y, x < N → y < N → x ≠ y → S.1.2.2.1.2 ci x ≠ S.1.2.2.1.2 ci y := by
  intro x y hx hy hne
  obtain ⟨hSl, -⟩ := hS.2.2.2.2.2.1.1 ci _ hC.1
  obtain ⟨_, _, _, fa, hia, ea⟩ := hSl x hx
  obtain ⟨_, _, _, fb, hib, eb⟩ := hSl y hy
  rw [← ea, ← eb]
  refine u_apart (u_lays hS.2.2.2.2.1 hC.2.1 hx) (u_lays hS.2.2.2.2.1 hC.2.1 hy) hia hib ?_
  rw [(State.fieldFound?_type hia (hC.2.2.1 x hx)).1, (State.fieldFound?_type hib (hC.2.2.1 y hy)).1]
  exact hC.2.2.2.1 x hx y hy hne
theorem s_putv (hS : SO S own cc) {ci ix N : Nat} {C : String} {T : u_T} {a v : Int} (hC : cow_ ci C T N) (fk : Nat) (hk : fk < N) (hw : Cond.fieldLink own ix (T fk).1 (T fk).2.1 (T fk).2.2.1 ∈ gw_) (hfin : (T fk).2.2.2 = false) (hnf : narrow (k_ty ci fk) (g_v S.1 (t_t (k_ty ci fk), v)) = g_v S.1 (t_t (k_ty ci fk), v) ∧ fits (k_ty ci fk) (g_v S.1 (t_t (k_ty ci fk), v)) = true) (e : h_T h a = (ci : Int) + 1) (d : decode cc pc = .ok (.putfield ix, 3))
    (kk : Sim S (pc + 3) ls st k n (h_S h a fk v) o) : Sim S pc ls ((t_t (k_ty ci fk), v) :: (2, a) :: st) k n h o := by
  intro r h' ho H locs la hH hf hv
  obtain ⟨a1, a2⟩ := hH.2.2.2.1 a (by omega)
  obtain ⟨cell, q1, q2, q3, q4⟩ := (hH.2.2.2.2 a a1 a2).1 ci _ hC.1 e
  obtain ⟨hSl, hfc, kC, hkC, hkind⟩ := hS.2.2.2.2.2.1.1 ci _ hC.1
  obtain ⟨cf, kf, fi, fd, hi, hsl⟩ := hSl fk hk
  have hlay := hS.2.2.2.2.1 _ (hC.2.1 _ (u_in_lay hk))
  unfold u_lay at hlay
  rw [if_neg (by rw [hfin]; decide)] at hlay
  have hst := (u_facts hfc hkC (u_lays hS.2.2.2.2.1 hC.2.1 hk) hi).1
  have h6 := u_store hfc hkC hkind hlay hi (hC.2.2.1 fk hk) hnf.1 hnf.2
  simp only [List.map_cons, gv2 _ (show a ≠ 0 by omega)]
  refine W.putK hS.1 hS.2.1 (f := fd) ⟨hS.2.2.2.1, hS.2.2.2.2.1 _ hw, ⟨_, _, _, hi⟩, hst⟩ (by rw [q2]; exact h6) q1 q3 (by rw [hsl]; exact k2_hasslot (q4 fk hk)) rfl rfl d fun H' w1 w2 w3 => ?_
  rw [hsl] at w1 ⊢
  refine kk r h' ho H' _ la (HO_put (iS := id) hH hC.1 e hk (co_ap hS hC) q2 q3 q4 w1 w2 w3) (t_lc hf (ga_ge _ a1)) hv
theorem s_putf (hS : SO S own cc) {ci ix N : Nat} {C : String} {T : u_T} {a v tag ik : Int} {tg : Nat} {f : AH → Option (Int × AH)} (hC : cow_ ci C T N) (fk : Nat) (hk : fk < N) (hw : Cond.fieldLink own ix (T fk).1 (T fk).2.1 (T fk).2.2.1 ∈ gw_) (hfin : (T fk).2.2.2 = false) (htg : t_t (k_ty ci fk) = tg) (hty : k_ty ci fk = .int ∨ k_ty ci fk = .long ∨ (∃ C, k_ty ci fk = .object C) ∨ (∃ t, k_ty ci fk = .array t)) (e1 : (ci : Int) + 1 = tag) (e2 : (fk : Int) = ik) (d : decode cc pc = .ok (.putfield ix, 3))
    (kk : ∀ h2 : AH, Sim S (pc + 3) ls st k n h2 (f h2)) : Sim S pc ls ((tg, v) :: (2, a) :: st) k n h ((s_f h tag a ik v).bind f) := by
  subst e1; subst e2; subst htg
  unfold s_f
  by_cases e : h_T h a = (ci : Int) + 1
  · rw [if_pos e]
    exact s_putv hS hC fk hk hw hfin (nf_ok _ _ (by rcases hty with h | h | h | h <;> simp [h])) e d (kk _)
  · rw [if_neg e]; exact s_none
theorem s_putz (hS : SO S own cc) {ci ix N : Nat} {C : String} {T : u_T} {a v tag ik : Int} {f : AH → Option (Int × AH)} (hC : cow_ ci C T N) (fk : Nat) (hk : fk < N) (hw : Cond.fieldLink own ix (T fk).1 (T fk).2.1 (T fk).2.2.1 ∈ gw_) (hfin : (T fk).2.2.2 = false) (hty : k_ty ci fk = .boolean) (e1 : (ci : Int) + 1 = tag) (e2 : (fk : Int) = ik) (d : decode cc pc = .ok (.putfield ix, 3))
    (kk : ∀ h2 : AH, Sim S (pc + 3) ls st k n h2 (f h2)) : Sim S pc ls ((0, v) :: (2, a) :: st) k n h ((s_fb h tag a ik v).bind f) := by
  subst e1; subst e2
  unfold s_fb
  by_cases e : h_T h a = (ci : Int) + 1 ∧ (v = 0 ∨ v = 1)
  · rw [if_pos e]
    have h0 : t_t (k_ty ci fk) = 0 := by rw [hty]; rfl
    have := s_putv hS hC fk hk hw hfin (nf_ok _ v (Or.inr (Or.inr (Or.inr (Or.inr ⟨hty, e.2⟩))))) e.1 d (kk _) (ls := ls) (st := st) (k := k) (n := n)
    rw [h0] at this
    exact this
  · rw [if_neg e]; exact s_none
/-- a final field in its class's constructor -/
theorem s_putF (hS : SO S own cc) {ci ix N : Nat} {C : String} {T : u_T} {a v tag ik : Int} {tg : Nat} {f : AH → Option (Int × AH)} (hin : S.2.1.2.2.2.2.2.2.2.2.1.name = "<init>") (hC : cow_ ci C T N) (fk : Nat) (hk : fk < N) (hw : Cond.fieldLink own ix (T fk).1 (T fk).2.1 (T fk).2.2.1 ∈ gw_) (hfin : (T fk).2.2.2 = true) (hdecl : (T fk).1 = own) (htg : t_t (k_ty ci fk) = tg) (hty : k_ty ci fk = .int ∨ k_ty ci fk = .long ∨ (∃ C, k_ty ci fk = .object C) ∨ (∃ t, k_ty ci fk = .array t)) (e1 : (ci : Int) + 1 = tag) (e2 : (fk : Int) = ik) (d : decode cc pc = .ok (.putfield ix, 3))
    (kk : ∀ h2 : AH, Sim S (pc + 3) ls st k n h2 (f h2)) : Sim S pc ls ((tg, v) :: (2, a) :: st) k n h ((s_f h tag a ik v).bind f) := by
  subst e1; subst e2; subst htg
  unfold s_f
  by_cases e : h_T h a = (ci : Int) + 1
  · rw [if_pos e]
    intro r h' ho H locs la hH hf hv
    have hnf := nf_ok S.1 (ty := k_ty ci fk) v (by rcases hty with h | h | h | h <;> simp [h])
    obtain ⟨a1, a2⟩ := hH.2.2.2.1 a (by omega)
    obtain ⟨cell, q1, q2, q3, q4⟩ := (hH.2.2.2.2 a a1 a2).1 ci _ hC.1 e
    obtain ⟨hSl, hfc, kC, hkC, hkind⟩ := hS.2.2.2.2.2.1.1 ci _ hC.1
    obtain ⟨cf, kf, fi, fd, hi, hsl⟩ := hSl fk hk
    have hlay := hS.2.2.2.2.1 _ (hC.2.1 _ (u_in_lay hk))
    unfold u_lay at hlay
    rw [if_pos hfin] at hlay
    have hst := (u_facts hfc hkC (u_lays hS.2.2.2.2.1 hC.2.1 hk) hi).1
    have hcf : S.2.1.2.2.2.2.2.1.cls = cf := by
      obtain ⟨_, _, c', _, _, _, -, -, hf', -, -, -, hown2, -⟩ := Cond.laysFinal_spec hlay
      have e1 : c' = cf := by have := hi.symm.trans hf'; simp at this; exact this.1.symm
      rw [hdecl] at hown2
      rw [← e1]; exact Option.some.inj (hS.2.2.2.1.symm.trans hown2)
    have h6 := u_fits hfc hkC hkind (Or.inr hlay) hi (hC.2.2.1 fk hk) hnf.1 hnf.2
    simp only [List.map_cons, gv2 _ (show a ≠ 0 by omega)]
    refine W.putFinK hS.1 hS.2.1 hS.2.2.2.1 (hS.2.2.2.2.1 _ hw) hi hst hcf hin (by rw [q2]; exact h6) q1 q3 (by rw [hsl]; exact k2_hasslot (q4 fk hk)) rfl rfl d fun H' w1 w2 w3 => ?_
    rw [hsl] at w1 ⊢
    exact kk _ r h' ho H' _ la (HO_put (iS := id) hH hC.1 e hk (co_ap hS hC) q2 q3 q4 w1 w2 w3) (t_lc hf (ga_ge _ a1)) hv
  · rw [if_neg e]; exact s_none
end SC
