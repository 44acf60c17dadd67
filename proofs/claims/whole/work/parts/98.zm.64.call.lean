/-! ===== contracts and calls ===== -/
theorem EO_warm {G : GE} {s U : State} (hW : s.WarmedH U.vm) (h : EO G s) : EO G U := by
  obtain ⟨h1, h2, h3, h4, h5, h6, h7, h8⟩ := h
  have hv := hW.alike
  refine ⟨fun c q hq => u_Kn_moved hv (h1 c q hq), fun t a b => ⟨arrOfT_moved hv (h2 t a b).1, (h2 t a b).2.moved hv⟩, fun w hw hn => ?_, ⟨h4.1.moved hv, h4.2.1.moved hv, h4.2.2.moved hv⟩, h5.moved hv, fun i q hq => (h6 i q hq).warm hW, h7.moved hv, h8.imp (fun z => z.moved hv) (fun z => z.moved hv)⟩
  have := h3 w hw hn
  cases w <;> first | exact va_Nw.warmM hW this | cases hn
theorem EO_same {G : GE} {s U : State} (e : U.vm = s.vm) (h : EO G s) : EO G U := by
  obtain ⟨h1, h2, h3, h4, h5, h6, h7, h8⟩ := h
  have hv : s.vm.Alike U.vm := by rw [e]; exact Vm.Alike.refl _
  refine ⟨fun c q hq => u_Kn_moved hv (h1 c q hq), fun t a b => ⟨arrOfT_moved hv (h2 t a b).1, (h2 t a b).2.moved hv⟩, fun w hw hn => ?_, ⟨h4.1.moved hv, h4.2.1.moved hv, h4.2.2.moved hv⟩, h5.moved hv, fun i q hq => (h6 i q hq).same e, h7.moved hv, h8.imp (fun z => z.moved hv) (fun z => z.moved hv)⟩
  have := h3 w hw hn
  cases w <;> first | exact va_Nw.same rfl e.symm this | cases hn
def pc_ (G : GE) (args : List (Nat × Int)) (h : AH) : Array Value → State → Prop := fun a U => a = (args.map (g_v G)).toArray ∧ EO G U ∧ HO G h U.heap
def wsw_ (y : MethodName) (cc : ByteArray) (mL : Nat) (ret : Option FieldType) : List Cond := Cond.code y cc mL ret :: gw_
def Con (l : Launch) (y : MethodName) (cc : ByteArray) (mL : Nat) (ret : Option FieldType) (fr lo mc ms : Nat) (G : GE) (args : List (Nat × Int)) (h : AH) (o : Option (Int × AH)) : Prop :=
  ∀ (r : Int) (h' : AH), o = some (r, h') → Met l y (wsw_ y cc mL ret) { frames := fr, cells := mc, slots := ms, locals := lo } (pc_ G args h) (q_c G ret r h') mc ms (frw_ G)
def l_a : Nat → List (Nat × Int) → List (Nat × Nat × Int)
  | _, [] => []
  | i, q :: t => (i, q) :: l_a (if q.1 = 1 then i + 2 else i + 1) t
def l_w (args : List (Nat × Int)) : Nat := (args.map fun q => if q.1 = 1 then 2 else 1).sum
theorem gv_c2 (G : GE) (q : Nat × Int) : (g_v G q).category = 2 ↔ q.1 = 1 := by
  by_cases h : q.1 = 1
  · obtain ⟨t, z⟩ := q
    cases h
    exact ⟨fun _ => rfl, fun _ => rfl⟩
  · rw [gv_cat1 G h]; simp [h]
theorem l_a_eq (G : GE) : ∀ (args : List (Nat × Int)) (i : Nat), lv_args i (args.map (g_v G)) = (l_a i args).map fun q => (q.1, g_v G q.2)
  | [], _ => rfl
  | q :: t, i => by
    simp only [List.map_cons, lv_args, l_a]
    by_cases h : q.1 = 1
    · rw [if_pos ((gv_c2 G q).mpr h), if_pos h, l_a_eq G t]
    · rw [if_neg (fun z => h ((gv_c2 G q).mp z)), if_neg h, l_a_eq G t]
theorem l_w_eq (G : GE) : ∀ (args : List (Nat × Int)), (lg_sl (args.map (g_v G))).length = l_w args
  | [] => rfl
  | q :: t => by
    have ih := l_w_eq G t
    unfold lg_sl l_w at ih ⊢
    simp only [List.map_cons, List.flatMap_cons, List.length_append, List.sum_cons, ih]
    by_cases h : q.1 = 1
    · rw [if_pos ((gv_c2 G q).mpr h), if_pos h]; rfl
    · rw [if_neg (fun z => h ((gv_c2 G q).mp z)), if_neg h]; rfl
abbrev SMw : Type := Program × Launch × Env × Room × State × MethodId × Array Value × List Frame × Method × Code
theorem con_of {l : Launch} {y : MethodName} {cc : ByteArray} {mL : Nat} {ret : Option FieldType} {fr lo mc ms : Nat} {G : GE} {args : List (Nat × Int)} {h : AH} {o : Option (Int × AH)} (hy : plainName y.cls = true) (hw : l_w args ≤ mL)
    (body : ∀ X : SMw, X.2.1 = l → SO (G, X, mL, mc, ms, ret, fr, lo) y.cls cc → X.2.2.2.2.2.2.2.2.1.name = y.name → Sim (G, X, mL, mc, ms, ret, fr, lo) 0 (l_a 0 args) [] 0 0 h o) : Con l y cc mL ret fr lo mc ms G args h o := by
  intro r h' ho
  refine Met.ofW (cc := cc) (maxL := mL) (ret := ret) hy rfl ?_
  intro p e s m ar below meth c s₁ B hml hv
  obtain ⟨rfl, hE, hH⟩ := hv
  have hts := atoms_spec (ws := wsw_ y cc mL ret) B.pre
  have hO : SO (G, (p, l, e, (headSpec (wsw_ y cc mL ret) { frames := fr, cells := mc, slots := ms, locals := lo }).room, s, m, (args.map (g_v G)).toArray, below, meth, c), mL, mc, ms, ret, fr, lo) y.cls cc :=
    ⟨B.exec, B.bytes, hml, findClass_of_methodNamed B.named, fun w hw => hts w (List.mem_cons_of_mem _ hw), hE, B.returns, B.notSynchronized, Nat.le_refl _, Nat.le_refl _, Nat.le_refl _, Nat.le_refl _⟩
  have K := body _ rfl hO (name_of_methodNamed B.named B.method).1 r h' ho s.heap []
  have hl := lv_entry (args.map (g_v G)) (n := mL) (by rw [l_w_eq]; exact hw)
  rw [lg_entry_eq]
  rw [l_a_eq] at hl
  exact K _ hH (fun q hq => by cases hq) hl
/-- what a method's own words are, and its shape -/
def mow_ (y : MethodName) (bytes : ByteArray) (mL : Nat) (ret : Option FieldType) (np : Nat) : Prop :=
  Cond.code y bytes mL ret ∈ gw_ ∧ Cond.initialized y.cls ∈ gw_ ∧ y.cls ≠ "java/lang/invoke/MethodHandle" ∧ y.cls ≠ "java/lang/invoke/VarHandle" ∧ (parseMethodDescriptor y.desc).map (fun d => d.parameters.length) = some np
theorem gw_good : ∀ w ∈ gw_, (w.onTables && w.keeps) = true ∨ ∃ ty, w = .arrayClass ty := fun _ hw => good_of_word (List.mem_filter.mp hw).2
theorem gw_goodIn {y : MethodName} {bytes : ByteArray} {mL : Nat} {ret : Option FieldType} (h : Cond.code y bytes mL ret ∈ gw_) : GoodIn gw_ (wsw_ y bytes mL ret) := by
  intro w hw
  rcases List.mem_cons.mp hw with rfl | hw
  · exact ⟨h, gw_good _ h⟩
  · exact ⟨hw, gw_good _ hw⟩
theorem sum_cat (G : GE) : ∀ (st : List (Nat × Int)), ((st.map (g_v G)).map fun v => v.category).sum ≤ 2 * st.length
  | [] => Nat.le_refl 0
  | q :: t => by
    have := sum_cat G t
    have := gv_cat G q
    simp only [List.map_cons, List.sum_cons, List.length_cons]
    omega
theorem pc_blind (G : GE) (args : List (Nat × Int)) (h : AH) : FrameBlind (pc_ G args h) := fun a U g mk q => ⟨q.1, EO_same (s := U) rfl q.2.1, q.2.2⟩
def q_p (ret : Option FieldType) (r : Int) : List (Nat × Int) := match ret with
  | none => []
  | some t => [(t_t t, r)]
theorem q_p_v (G : GE) (ret : Option FieldType) (r : Int) : (q_v G ret r).toList = (q_p ret r).map (g_v G) := by
  cases ret <;> rfl
section SF
variable {S : SX} {own : String} {cc : ByteArray} {pc : Nat} {ls : List (Nat × Nat × Int)} {st : List (Nat × Int)} {k n : Nat} {h : AH} {o o1 o2 : Option (Int × AH)}
/-- a call that runs: how it goes on -/
theorem s_run {stkv : List Value} {ret : Option FieldType} {mc ms : Nat} {r1 r : Int} {h1 h' : AH} {aa : Array Value} {o : Option (Int × AH)} {H : Heap} {locs : List Loc} {la : Array Slot}
    (hr : va_Run S.2.1.1 S.2.1.2.1 S.2.1.2.2.1 S.2.1.2.2.2.1 S.2.1.2.2.2.2.1 S.2.1.2.2.2.2.2.1 S.2.1.2.2.2.2.2.2.1 S.2.1.2.2.2.2.2.2.2.1 S.2.1.2.2.2.2.2.2.2.2.1 S.2.1.2.2.2.2.2.2.2.2.2 H locs k n mc ms (F0 S.2.1.2.2.2.2.2.1 pc la stkv) (st.map (g_v S.1)) (q_c S.1 ret r1 h1 aa) (frw_ S.1))
    (kk : Sim S (pc + 3) ls (q_p ret r1 ++ st) (k + mc) (n + ms) h1 o) (ho : o = some (r, h')) (hf : ∀ q ∈ locs, frw_ S.1 q.base) (hv : lv_has la S.2.2.1 (ls.map fun q => (q.1, g_v S.1 q.2))) : SW S H locs k n r h' (F0 S.2.1.2.2.2.2.2.1 pc la stkv) := by
  intro T hT X
  obtain ⟨v, st₀, t, T', L, h0, X', hL, e1, e2, hq, stp⟩ := hr T hT X
  obtain ⟨q1, q2⟩ := hq
  cases q1
  obtain ⟨t2, a1, b1⟩ := kk r h' ho t.heap (locs ++ L) la q2 (t_lL hf hL) hv T' e1 X'
  refine ⟨t2, stp t2 ?_, b1⟩
  rw [List.map_append, ← q_p_v] at a1
  exact a1
theorem s_callS (hS : SO S own cc) {y : MethodName} {bytes : ByteArray} {mL ix np fr lo mc ms : Nat} {ret : Option FieldType} {As stk : List (Nat × Int)} {f : Int → AH → Option (Int × AH)} (hM : mow_ y bytes mL ret np) (hc : Con S.2.1.2.1 y bytes mL ret fr lo mc ms S.1 As h o1) (w1 : Cond.methodLink own ix y ∈ gw_) (w2 : Cond.static y ∈ gw_) (hR : fr + 1 ≤ S.2.2.2.2.2.2.1 ∧ 8 + (mL + 11) + lo ≤ S.2.2.2.2.2.2.2) (hk : k + mc ≤ S.2.2.2.1 ∧ n + ms ≤ S.2.2.2.2.1) (hn : As.length = np) (hst : stk = As.reverse ++ st) (hl : st.length ≤ 4) (d : decode cc pc = .ok (.invokestatic ix, 3))
    (kk : ∀ (r : Int) (h2 : AH), Sim S (pc + 3) ls (q_p ret r ++ st) (k + mc) (n + ms) h2 (f r h2)) : Sim S pc ls stk k n h (bd_ o1 f) := by
  subst hst
  cases hv1 : o1 with
  | none => exact s_none
  | some v1 =>
    intro r h' ho H locs la hH hf hv
    have hSR := hS.2.2.2.2.2.2.2.2
    have hcat := sum_cat S.1 st
    refine s_run (r1 := v1.1) (h1 := v1.2) (ret := ret) (va_runS (cc := cc) (nL := S.2.2.1) (own := own) (Ts := gw_) (As := As.map (g_v S.1)) ⟨hS.1, hS.2.1, hS.2.2.1, hS.2.2.2.1, hS.2.2.2.2.1⟩ (hc v1.1 v1.2 hv1) ⟨callB_of np hS.2.2.2.2.1 (gw_goodIn hM.1) rfl rfl rfl (hS.2.2.2.2.1 _ hM.2.1) (hS.2.2.2.2.1 _ w1) hM.2.2 ⟨by show fr + 1 ≤ _; omega, by show 8 + (mL + 11) + lo ≤ _; omega⟩, hS.2.2.2.2.1 _ w2⟩
      ⟨pc_blind _ _ _, fun U hU hW => ⟨rfl, EO_warm hW hS.2.2.2.2.2.1, by rw [hU]; exact hH⟩⟩ rfl (by rw [List.length_map]; exact hn) (by show la.size = _; exact hv.1) (by simp) (by show 2 * 0 + _ ≤ 8; omega) d ⟨by omega, by omega⟩) (kk v1.1 v1.2) ho hf hv
theorem s_callV (hS : SO S own cc) {y : MethodName} {bytes : ByteArray} {mL ix np fr lo mc ms ci N : Nat} {T : u_T} {ret : Option FieldType} {b tag : Int} {As stk : List (Nat × Int)} {f : Int → AH → Option (Int × AH)} (hM : mow_ y bytes mL ret np) (hC : vwCl[ci]? = some (y.cls, T, N)) (et : (ci : Int) + 1 = tag) (hc : Con S.2.1.2.1 y bytes mL ret fr lo mc ms S.1 ((2, b) :: As) h o1) (w1 : Cond.methodLink own ix y ∈ gw_) (w2 : Cond.instanceMethod y ∈ gw_) (w3 : Cond.selects y.cls y y ∈ gw_) (hR : fr + 1 ≤ S.2.2.2.2.2.2.1 ∧ 8 + (mL + 11) + lo ≤ S.2.2.2.2.2.2.2) (hk : k + mc ≤ S.2.2.2.1 ∧ n + ms ≤ S.2.2.2.2.1) (hn : As.length = np) (hst : stk = As.reverse ++ (2, b) :: st) (hl : st.length ≤ 4) (d : decode cc pc = .ok (.invokevirtual ix, 3))
    (kk : ∀ (r : Int) (h2 : AH), Sim S (pc + 3) ls (q_p ret r ++ st) (k + mc) (n + ms) h2 (f r h2)) : Sim S pc ls stk k n h (c_k h tag b (bd_ o1 f)) := by
  subst hst; subst et
  refine s_ck fun et => ?_
  cases hv1 : o1 with
  | none => exact s_none
  | some v1 =>
    intro r h' ho H locs la hH hf hv
    have hSR := hS.2.2.2.2.2.2.2.2
    have hcat := sum_cat S.1 st
    obtain ⟨a1, a2⟩ := hH.2.2.2.1 b (by omega)
    obtain ⟨cell, q1, q2, q3, q4⟩ := (hH.2.2.2.2 b a1 a2).1 ci _ hC et
    have hfc := (hS.2.2.2.2.2.1.1 ci _ hC).2.1
    have e2 := gv2 S.1 (show b ≠ 0 by omega)
    refine s_run (r1 := v1.1) (h1 := v1.2) (ret := ret) (va_runV (cc := cc) (nL := S.2.2.1) (own := own) (Ts := gw_) (C := y.cls) (b := g_a S.1 b) (As := As.map (g_v S.1)) (Pc := pc_ S.1 ((2, b) :: As) h) ⟨hS.1, hS.2.1, hS.2.2.1, hS.2.2.2.1, hS.2.2.2.2.1⟩ (hc v1.1 v1.2 hv1) ⟨callB_of np hS.2.2.2.2.1 (gw_goodIn hM.1) rfl rfl rfl (hS.2.2.2.2.1 _ hM.2.1) (hS.2.2.2.2.1 _ w1) hM.2.2 ⟨by show fr + 1 ≤ _; omega, by show 8 + (mL + 11) + lo ≤ _; omega⟩, hS.2.2.2.2.1 _ w2, hS.2.2.2.2.1 _ w3⟩
      ⟨pc_blind _ _ _, ⟨cell, q1, by rw [q3]; rfl, by rw [q2]; exact hfc⟩, fun U hU hW => ⟨by rw [List.map_cons, e2], EO_warm hW hS.2.2.2.2.2.1, by rw [hU]; exact hH⟩⟩ rfl (by rw [List.length_map]; exact hn) (by show la.size = _; exact hv.1) (by simp [e2]) (by show 2 * 0 + _ ≤ 8; omega) d ⟨by omega, by omega⟩) (kk v1.1 v1.2) ho hf hv
/-- a constructor, seen from its own or from any class -/
theorem s_callI (hS : SO S own cc) {y : MethodName} {bytes : ByteArray} {mL ix np fr lo mc ms : Nat} {b tag : Int} {As stk : List (Nat × Int)} {f : Int → AH → Option (Int × AH)} (hM : mow_ y bytes mL none np) (hy : y.name = "<init>") (hc : Con S.2.1.2.1 y bytes mL none fr lo mc ms S.1 ((2, b) :: As) h o1) (et : tag ≠ 0) (w1 : Cond.methodLink own ix y ∈ gw_) (w2 : Cond.instanceMethod y ∈ gw_) (hR : fr + 1 ≤ S.2.2.2.2.2.2.1 ∧ 8 + (mL + 11) + lo ≤ S.2.2.2.2.2.2.2) (hk : k + mc ≤ S.2.2.2.1 ∧ n + ms ≤ S.2.2.2.2.1) (hn : As.length = np) (hst : stk = As.reverse ++ (2, b) :: st) (hl : st.length ≤ 4) (d : decode cc pc = .ok (.invokespecial ix, 3))
    (kk : ∀ (r : Int) (h2 : AH), Sim S (pc + 3) ls st (k + mc) (n + ms) h2 (f r h2)) : Sim S pc ls stk k n h (c_k h tag b (bd_ o1 f)) := by
  subst hst
  refine s_ck fun et2 => ?_
  cases hv1 : o1 with
  | none => exact s_none
  | some v1 =>
    intro r h' ho H locs la hH hf hv
    have hSR := hS.2.2.2.2.2.2.2.2
    have hcat := sum_cat S.1 st
    obtain ⟨a1, a2⟩ := hH.2.2.2.1 b (by rw [et2]; exact et)
    have e2 := gv2 S.1 (show b ≠ 0 by omega)
    refine s_run (r1 := v1.1) (h1 := v1.2) (ret := none) (va_runI (cc := cc) (nL := S.2.2.1) (own := own) (Ts := gw_) (b := g_a S.1 b) (As := As.map (g_v S.1)) (Pc := pc_ S.1 ((2, b) :: As) h) ⟨hS.1, hS.2.1, hS.2.2.1, hS.2.2.2.1, hS.2.2.2.2.1⟩ (hc v1.1 v1.2 hv1) ⟨callB_of np hS.2.2.2.2.1 (gw_goodIn hM.1) rfl rfl rfl (hS.2.2.2.2.1 _ hM.2.1) (hS.2.2.2.2.1 _ w1) hM.2.2 ⟨by show fr + 1 ≤ _; omega, by show 8 + (mL + 11) + lo ≤ _; omega⟩, hy, hS.2.2.2.2.1 _ w2⟩
      ⟨pc_blind _ _ _, fun U hU hW => ⟨by rw [List.map_cons, e2], EO_warm hW hS.2.2.2.2.2.1, by rw [hU]; exact hH⟩⟩ rfl (by rw [List.length_map]; exact hn) (by show la.size = _; exact hv.1) (by simp [e2]) (by show 2 * 0 + _ ≤ 8; omega) d ⟨by omega, by omega⟩) (kk v1.1 v1.2) ho hf hv
theorem s_callN (hS : SO S own cc) {y : MethodName} {host : String} {bytes : ByteArray} {mL ix np fr lo mc ms : Nat} {b tag : Int} {As stk : List (Nat × Int)} {f : Int → AH → Option (Int × AH)} (hM : mow_ y bytes mL none np) (hy : y.name = "<init>") (hc : Con S.2.1.2.1 y bytes mL none fr lo mc ms S.1 ((2, b) :: As) h o1) (et : tag ≠ 0) (w1 : Cond.methodLinkNest own ix y host ∈ lw_tbl) (w2 : Cond.instanceMethod y ∈ gw_) (hR : fr + 1 ≤ S.2.2.2.2.2.2.1 ∧ 8 + (mL + 11) + lo ≤ S.2.2.2.2.2.2.2) (hk : k + mc ≤ S.2.2.2.1 ∧ n + ms ≤ S.2.2.2.2.1) (hn : As.length = np) (hst : stk = As.reverse ++ (2, b) :: st) (hl : st.length ≤ 4) (d : decode cc pc = .ok (.invokespecial ix, 3))
    (kk : ∀ (r : Int) (h2 : AH), Sim S (pc + 3) ls st (k + mc) (n + ms) h2 (f r h2)) : Sim S pc ls stk k n h (c_k h tag b (bd_ o1 f)) := by
  subst hst
  refine s_ck fun et2 => ?_
  cases hv1 : o1 with
  | none => exact s_none
  | some v1 =>
    intro r h' ho H locs la hH hf hv
    have hSR := hS.2.2.2.2.2.2.2.2
    have hcat := sum_cat S.1 st
    obtain ⟨a1, a2⟩ := hH.2.2.2.1 b (by rw [et2]; exact et)
    have e2 := gv2 S.1 (show b ≠ 0 by omega)
    have hNw := hS.2.2.2.2.2.1.2.2.1 _ w1 rfl
    refine s_run (r1 := v1.1) (h1 := v1.2) (ret := none) (va_runIN (cc := cc) (nL := S.2.2.1) (own := own) (Ts := gw_) (b := g_a S.1 b) (As := As.map (g_v S.1)) (Pc := pc_ S.1 ((2, b) :: As) h) ⟨hS.1, hS.2.1, hS.2.2.1, hS.2.2.2.1, hS.2.2.2.2.1⟩ (hc v1.1 v1.2 hv1) ⟨va_cnB np hS.2.2.2.2.1 (gw_goodIn hM.1) rfl rfl rfl hNw (hS.2.2.2.2.1 _ hM.2.1) hM.2.2 ⟨by show fr + 1 ≤ _; omega, by show 8 + (mL + 11) + lo ≤ _; omega⟩, hy, hS.2.2.2.2.1 _ w2⟩
      ⟨pc_blind _ _ _, fun U hU hW => ⟨by rw [List.map_cons, e2], EO_warm hW hS.2.2.2.2.2.1, by rw [hU]; exact hH⟩⟩ rfl (by rw [List.length_map]; exact hn) (by show la.size = _; exact hv.1) (by simp [e2]) (by show 2 * 0 + _ ≤ 8; omega) d ⟨by omega, by omega⟩) (kk v1.1 v1.2) ho hf hv
theorem s_obj (hS : SO S own cc) {a tag : Int} {ix : Nat} (et : tag ≠ 0) (w1 : Cond.methodLink own ix objectInit ∈ gw_) (w2 : Cond.instanceMethod objectInit ∈ gw_) (w3 : Cond.code objectInit ⟨#[0xb1]⟩ 1 none ∈ gw_) (hR : 1 ≤ S.2.2.2.2.2.2.1 ∧ 20 ≤ S.2.2.2.2.2.2.2) (hl : st.length ≤ 4) (d : decode cc pc = .ok (.invokespecial ix, 3)) (kk : Sim S (pc + 3) ls st k n h o) : Sim S pc ls ((2, a) :: st) k n h (c_k h tag a o) := by
  refine s_ck fun et2 => ?_
  intro r h' ho H locs la hH hf hv
  have hSR := hS.2.2.2.2.2.2.2.2
  have hcat := sum_cat S.1 st
  obtain ⟨a1, a2⟩ := hH.2.2.2.1 a (by rw [et2]; exact et)
  simp only [List.map_cons, gv2 _ (show a ≠ 0 by omega)]
  refine W.objInit hS.1 hS.2.1 hS.2.2.2.1 (hS.2.2.2.2.1 _ w1) (hS.2.2.2.2.1 _ w2) (hS.2.2.2.2.1 _ w3) rfl (by show la.size = _; rw [hS.2.2.1]; exact hv.1) rfl d (by omega) (by show 2 * 0 + _ + 12 ≤ _; omega) (kk r h' ho H locs la hH hf hv)
end SF
