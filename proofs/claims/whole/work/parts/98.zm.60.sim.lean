/-! ===== the machine's heap by a heap of numbers ===== -/
/-- base of the new cells, where the literals lie, class numbers, array classes, the old heap -/
abbrev GE : Type := Nat × (Nat → Nat) × va_G × (Int → ClassId) × Heap
def g_a (G : GE) (z : Int) : Nat := if 0 < z then G.1 + (z - 1).toNat else G.2.1 (-z - 1).toNat
def g_v (G : GE) (q : Nat × Int) : Value := match q.1 with
  | 0 => .int (i32 q.2)
  | 1 => .long (i64 q.2)
  | _ => if q.2 = 0 then .null else .ref (g_a G q.2)
def t_t : FieldType → Nat
  | .long => 1
  | .object _ => 2
  | .array _ => 2
  | _ => 0
def k_ty (ci : Nat) : Nat → FieldType := match ci with
  | 0 => tyX0
  | 1 => tyX1
  | 2 => tyX2
  | 3 => tyX3
  | 4 => tyX4
  | 5 => tyX5
  | 6 => tyX6
  | 7 => tyX7
  | 8 => tyX8
  | 9 => tyX9
  | _ => tyX10
def e_ty (t : Int) : FieldType := if t = 20 then .int else if t = 21 then .long else if t = 22 then .byte else if t = 23 then .boolean else if t = 24 then .object RX3 else if t = 25 then .object RX0 else .object RX5
def HC (G : GE) (h : AH) (H : Heap) (a : Int) : Prop :=
  (∀ (ci : Nat) (q : vw_C), vwCl[ci]? = some q → h_T h a = (ci : Int) + 1 → t_OB (g_a G a) (G.2.2.1.1 ci) q.2.2 (G.2.2.1.2 ci) H (fun k => g_v G (t_t (k_ty ci k), h_V h a k))) ∧
  (20 ≤ h_T h a → 0 ≤ h_N h a ∧ h_N h a < 2147483648 ∧ H[g_a G a]? = some (arrV (G.2.2.2.1 (h_T h a)) (h_N h a).toNat (fun j => g_v G (t_t (e_ty (h_T h a)), h_V h a j))))
def HO (G : GE) (h : AH) (H : Heap) : Prop :=
  1 ≤ h.1 ∧ H.size = G.1 + (h.1 - 1).toNat ∧ (∀ q : Nat, q < G.1 → H[q]? = G.2.2.2.2[q]?) ∧ (∀ a : Int, h_T h a ≠ 0 → 1 ≤ a ∧ a < h.1) ∧ ∀ a : Int, 1 ≤ a → a < h.1 → HC G h H a
def nw_ : Cond → Bool
  | .methodLinkNest .. => true
  | _ => false
def gw_ : List Cond := lw_tbl.filter goodWord
/-- literals: 0 the election's words, 1 serve, 2 the rules' words, 3 if, 4 not, 5 or and -/
def sx_ : List (String × Nat × String) := [(RX1, 64, "papers station voters spoiled"), (RX4, 38, "serve"), (RX4, 116, "station waiting stock box spoiled next runs crowd left hour"), (RX4, 52, "if"), (RX4, 82, "not"), (RX4, 80, "or and")]
def sb_ : List (List Int32) := sx_.map fun q => q.2.2.toList.map fun c => Int32.ofNat c.toNat
def sl_ : List Nat := sb_.map List.length
/-- what stays of the tables, and what the old heap holds of literals -/
def EO (G : GE) (U : State) : Prop :=
  (∀ (c : Nat) (q : vw_C), vwCl[c]? = some q → u_Kn U q.1 q.2.1 q.2.2 (G.2.2.1.1 c) (G.2.2.1.2 c)) ∧
  (∀ t : Int, 20 ≤ t → t ≤ 26 → ArrOfT U (G.2.2.2.1 t) (e_ty t) ∧ va_RA U (G.2.2.2.1 t) (e_ty t)) ∧
  (∀ w ∈ lw_tbl, nw_ w = true → va_Nw w U) ∧
  (va_AO RX3 U ∧ va_AO RX0 U ∧ va_AO RX5 U) ∧
  vk_S 6 sl_ sb_ G.2.1 (fun i => G.2.1 (6 + i)) (fun q => G.1 ≤ q) U G.2.2.2.2 ∧
  (∀ (i : Nat) (q : String × Nat × String), sx_[i]? = some q → vk_R q.1 q.2.1 q.2.2 (G.2.1 i) U) ∧
  va_Z "java/lang/String" "COMPACT_STRINGS" "Z" (.int 1) (fun q => G.1 ≤ q) U G.2.2.2.2 ∧
  (va_Z "jdk/internal/util/Preconditions" "SIOOBE_FORMATTER" "Ljava/util/function/BiFunction;" .null (fun q => G.1 ≤ q) U G.2.2.2.2 ∨ va_Z "jdk/internal/util/Preconditions" "SIOOBE_FORMATTER" "Ljava/util/function/BiFunction;" (.ref (G.2.1 12)) (fun q => G.1 ≤ q) U G.2.2.2.2)
/-- the frame of a walk: ghosts; machine; locals' room, cells, slots, type of the answer, frames, words of locals -/
abbrev SX : Type := GE × (Program × Launch × Env × Room × State × MethodId × Array Value × List Frame × Method × Code) × (Nat × Nat × Nat × Option FieldType × Nat × Nat)
def q_v (G : GE) (r : Option FieldType) (z : Int) : Option Value := match r with
  | none => none
  | some t => some (g_v G (t_t t, z))
def q_c (G : GE) (r : Option FieldType) (z : Int) (h : AH) : Array Value → State → Outcome → State → Prop := fun _ _ o t => o = .returned (q_v G r z) ∧ HO G h t.heap
def frw_ (G : GE) : Nat → Prop := fun q => G.1 ≤ q
def SW (S : SX) (H : Heap) (locs : List Loc) (k n : Nat) (z : Int) (h : AH) (g : JFrame) : Prop :=
  W S.2.1.1 S.2.1.2.1 S.2.1.2.2.1 S.2.1.2.2.2.1 S.2.1.2.2.2.2.1 S.2.1.2.2.2.2.2.1 S.2.1.2.2.2.2.2.2.1 S.2.1.2.2.2.2.2.2.2.1 S.2.1.2.2.2.2.2.2.2.2.1 S.2.1.2.2.2.2.2.2.2.2.2 H locs k n
    (MQ S.2.1.2.2.2.2.2.2.2.1 (q_c S.1 S.2.2.2.2.2.1 z h) S.2.1.2.2.2.2.2.2.1 S.2.1.2.2.2.2.1 S.2.2.2.1 S.2.2.2.2.1 (frw_ S.1)) g
/-- at pc with these locals, this stack, k cells and n slots made, this heap: what comes of it is o, if o is something -/
def Sim (S : SX) (pc : Nat) (ls : List (Nat × Nat × Int)) (st : List (Nat × Int)) (k n : Nat) (h : AH) (o : Option (Int × AH)) : Prop :=
  ∀ (r : Int) (h' : AH), o = some (r, h') → ∀ (H : Heap) (locs : List Loc) (la : Array Slot), HO S.1 h H → (∀ q ∈ locs, frw_ S.1 q.base) → lv_has la S.2.2.1 (ls.map fun q => (q.1, g_v S.1 q.2)) →
    SW S H locs k n r h' (F0 S.2.1.2.2.2.2.2.1 pc la (st.map (g_v S.1)))
/-- the fixed facts of a walk -/
def SO (S : SX) (own : String) (cc : ByteArray) : Prop :=
  S.2.1.1.tables.exec = Jvm.exec ∧ S.2.1.2.2.2.2.2.2.2.2.2.code = cc ∧ S.2.1.2.2.2.2.2.2.2.2.2.maxLocals = S.2.2.1 ∧ S.2.1.2.2.2.2.1.vm.findClass own = some S.2.1.2.2.2.2.2.1.cls ∧
  (∀ w ∈ gw_, w.before S.2.1.2.2.2.2.2.2.1 S.2.1.2.2.2.2.1 = true) ∧ EO S.1 S.2.1.2.2.2.2.1 ∧ S.2.1.2.2.2.2.2.2.2.2.1.sig.returnType = S.2.2.2.2.2.1 ∧ S.2.1.2.2.2.2.2.2.2.2.1.locks = false ∧
  (S.2.2.2.1 ≤ S.2.1.2.2.2.1.cells ∧ S.2.2.2.2.1 ≤ S.2.1.2.2.2.1.slots ∧ S.2.2.2.2.2.2.1 ≤ S.2.1.2.2.2.1.frames ∧ S.2.2.2.2.2.2.2 ≤ S.2.1.2.2.2.1.locals)
theorem gv0 (G : GE) (z : Int) : g_v G (0, z) = .int (i32 z) := rfl
theorem gv1 (G : GE) (z : Int) : g_v G (1, z) = .long (i64 z) := rfl
theorem gv2n (G : GE) : g_v G (2, 0) = .null := rfl
theorem gv2 (G : GE) {z : Int} (h : z ≠ 0) : g_v G (2, z) = .ref (g_a G z) := by
  show (if z = 0 then Value.null else .ref (g_a G z)) = _
  rw [if_neg h]
theorem gv_cat1 (G : GE) {q : Nat × Int} (h : q.1 ≠ 1) : (g_v G q).category = 1 := by
  obtain ⟨t, z⟩ := q
  match t, h with
  | 0, _ => rfl
  | t + 2, _ =>
    show (if z = 0 then Value.null else .ref (g_a G z)).category = 1
    split <;> rfl
theorem gv_cat (G : GE) (q : Nat × Int) : (g_v G q).category ≤ 2 := by
  by_cases h : q.1 = 1
  · obtain ⟨t, z⟩ := q
    cases h
    exact Nat.le_refl 2
  · rw [gv_cat1 G h]; decide
section SA
variable {S : SX} {own : String} {cc : ByteArray} {pc : Nat} {ls : List (Nat × Nat × Int)} {st : List (Nat × Int)} {k n : Nat} {h : AH} {o : Option (Int × AH)}
theorem s_eq {o' : Option (Int × AH)} (e : o = o') (kk : Sim S pc ls st k n h o') : Sim S pc ls st k n h o := e ▸ kk
theorem s_none : Sim S pc ls st k n h none := fun r h' e => by cases e
theorem s_bind {α : Type} {x : Option α} {f : α → Option (Int × AH)} (kk : ∀ v, x = some v → Sim S pc ls st k n h (f v)) : Sim S pc ls st k n h (x.bind f) := by
  cases x with
  | none => exact s_none
  | some v => exact kk v rfl
theorem s_ck {t a : Int} {x : Option (Int × AH)} (kk : h_T h a = t → Sim S pc ls st k n h x) : Sim S pc ls st k n h (c_k h t a x) := by
  unfold c_k
  split
  · exact kk ‹_›
  · exact s_none
theorem s_ite {p : Prop} [Decidable p] {x y : Option (Int × AH)} (k1 : p → Sim S pc ls st k n h x) (k2 : ¬ p → Sim S pc ls st k n h y) : Sim S pc ls st k n h (if p then x else y) := by
  split
  · exact k1 ‹_›
  · exact k2 ‹_›
/-- locals: fewer, in another order -/
theorem s_ls {ls' : List (Nat × Nat × Int)} (ks : List Nat) (hl : ks.filterMap (fun i => ls[i]?) = ls') (kk : Sim S pc ls' st k n h o) : Sim S pc ls st k n h o := by
  intro r h' ho H locs la hH hf hv
  refine kk r h' ho H locs la hH hf ⟨hv.1, hv.2.1, fun q hq => hv.2.2 q ?_⟩
  rw [← hl] at hq
  obtain ⟨x, hx, rfl⟩ := List.mem_map.mp hq
  obtain ⟨i, -, hi⟩ := List.mem_filterMap.mp hx
  exact List.mem_map.mpr ⟨x, List.mem_of_getElem? hi, rfl⟩
theorem s_wd {k' n' : Nat} (h1 : k ≤ k') (h2 : n ≤ n') (kk : Sim S pc ls st k' n' h o) : Sim S pc ls st k n h o :=
  fun r h' ho H locs la hH hf hv => W.widen h1 h2 (kk r h' ho H locs la hH hf hv)
theorem ls_at {G : GE} {la : Array Slot} {nL i : Nat} {v : Nat × Int} (hv : lv_has la nL (ls.map fun q => (q.1, g_v G q.2))) (j : Nat) (hj : ls[j]? = some (i, v)) : la[i]? = some (.val (g_v G v)) := by
  have := hv.2.2 (i, g_v G v) (List.mem_map.mpr ⟨(i, v), List.mem_of_getElem? hj, rfl⟩)
  exact this
-- loads
theorem s_iload_n (hS : SO S own cc) {q : Fin 4} {i : Nat} {z : Int} (d : decode cc pc = .ok (.iload_n q, 1)) (hi : (q : Nat) = i) (j : Nat) (hj : ls[j]? = some (i, 0, z)) (kk : Sim S (pc + 1) ls ((0, z) :: st) k n h o) : Sim S pc ls st k n h o :=
  fun r h' ho H locs la hH hf hv => lv_iload_n hS.1 hS.2.1 d hi (ls_at hv j hj) (kk r h' ho H locs la hH hf hv)
theorem s_iload (hS : SO S own cc) {i : Nat} {z : Int} (d : decode cc pc = .ok (.iload i, 2)) (j : Nat) (hj : ls[j]? = some (i, 0, z)) (kk : Sim S (pc + 2) ls ((0, z) :: st) k n h o) : Sim S pc ls st k n h o :=
  fun r h' ho H locs la hH hf hv => lv_iload hS.1 hS.2.1 d (ls_at hv j hj) (kk r h' ho H locs la hH hf hv)
theorem s_lload_n (hS : SO S own cc) {q : Fin 4} {i : Nat} {z : Int} (d : decode cc pc = .ok (.lload_n q, 1)) (hi : (q : Nat) = i) (j : Nat) (hj : ls[j]? = some (i, 1, z)) (kk : Sim S (pc + 1) ls ((1, z) :: st) k n h o) : Sim S pc ls st k n h o :=
  fun r h' ho H locs la hH hf hv => lv_lload_n hS.1 hS.2.1 d hi (ls_at hv j hj) (kk r h' ho H locs la hH hf hv)
theorem s_lload (hS : SO S own cc) {i : Nat} {z : Int} (d : decode cc pc = .ok (.lload i, 2)) (j : Nat) (hj : ls[j]? = some (i, 1, z)) (kk : Sim S (pc + 2) ls ((1, z) :: st) k n h o) : Sim S pc ls st k n h o :=
  fun r h' ho H locs la hH hf hv => lv_lload hS.1 hS.2.1 d (ls_at hv j hj) (kk r h' ho H locs la hH hf hv)
theorem s_aload_n (hS : SO S own cc) {q : Fin 4} {i : Nat} {z : Int} (d : decode cc pc = .ok (.aload_n q, 1)) (hi : (q : Nat) = i) (j : Nat) (hj : ls[j]? = some (i, 2, z)) (kk : Sim S (pc + 1) ls ((2, z) :: st) k n h o) : Sim S pc ls st k n h o := by
  intro r h' ho H locs la hH hf hv
  have K := kk r h' ho H locs la hH hf hv
  have L := ls_at hv j hj
  by_cases e : z = 0
  · subst e
    exact lv_aload_nN hS.1 hS.2.1 d hi L K
  · rw [gv2 _ e] at L
    simp only [List.map_cons, gv2 _ e] at K
    exact lv_aload_n hS.1 hS.2.1 d hi L K
theorem s_aload (hS : SO S own cc) {i : Nat} {z : Int} (d : decode cc pc = .ok (.aload i, 2)) (j : Nat) (hj : ls[j]? = some (i, 2, z)) (kk : Sim S (pc + 2) ls ((2, z) :: st) k n h o) : Sim S pc ls st k n h o := by
  intro r h' ho H locs la hH hf hv
  have K := kk r h' ho H locs la hH hf hv
  have L := ls_at hv j hj
  by_cases e : z = 0
  · subst e
    exact lv_aloadN hS.1 hS.2.1 d L K
  · rw [gv2 _ e] at L
    simp only [List.map_cons, gv2 _ e] at K
    exact lv_aload hS.1 hS.2.1 d L K
-- stores
def l_p1 (i : Nat) (v : Nat × Int) (ls : List (Nat × Nat × Int)) : List (Nat × Nat × Int) := (i, v) :: ls.filter (fun q => !(q.1 == i) && !(q.1 + 1 == i && q.2.1 == 1))
def l_p2 (i : Nat) (v : Nat × Int) (ls : List (Nat × Nat × Int)) : List (Nat × Nat × Int) := (i, v) :: ls.filter (fun q => !(q.1 == i) && (!(q.1 == i + 1) && !(q.1 + 1 == i && q.2.1 == 1)))
theorem l_f1 (G : GE) (i : Nat) (ls : List (Nat × Nat × Int)) : ((ls.map fun q => (q.1, g_v G q.2)).filter (fun q => !(q.1 == i) && !(q.1 + 1 == i && q.2.category == 2))) = (ls.filter (fun q => !(q.1 == i) && !(q.1 + 1 == i && q.2.1 == 1))).map fun q => (q.1, g_v G q.2) := by
  rw [List.filter_map]
  congr 1
  refine List.filter_congr fun q _ => ?_
  have e : (g_v G q.2).category == 2 ↔ q.2.1 == 1 := by
    by_cases h1 : q.2.1 = 1
    · obtain ⟨i, t, z⟩ := q
      cases h1
      simp [gv1, Value.category]
    · rw [gv_cat1 G h1]; simp [h1]
  simp only [Function.comp_apply]
  congr 2
  rw [Bool.eq_iff_iff.mpr e]
theorem l_f2 (G : GE) (i : Nat) (ls : List (Nat × Nat × Int)) : ((ls.map fun q => (q.1, g_v G q.2)).filter (fun q => !(q.1 == i) && (!(q.1 == i + 1) && !(q.1 + 1 == i && q.2.category == 2)))) = (ls.filter (fun q => !(q.1 == i) && (!(q.1 == i + 1) && !(q.1 + 1 == i && q.2.1 == 1)))).map fun q => (q.1, g_v G q.2) := by
  rw [List.filter_map]
  congr 1
  refine List.filter_congr fun q _ => ?_
  have e : (g_v G q.2).category == 2 ↔ q.2.1 == 1 := by
    by_cases h1 : q.2.1 = 1
    · obtain ⟨i, t, z⟩ := q
      cases h1
      simp [gv1, Value.category]
    · rw [gv_cat1 G h1]; simp [h1]
  simp only [Function.comp_apply]
  congr 3
  rw [Bool.eq_iff_iff.mpr e]
theorem s_istore_n (hS : SO S own cc) {q : Fin 4} {i : Nat} {z : Int} {ls' : List (Nat × Nat × Int)} (d : decode cc pc = .ok (.istore_n q, 1)) (hi : (q : Nat) = i) (hn : i < S.2.2.1) (hl : l_p1 i (0, z) ls = ls') (kk : Sim S (pc + 1) ls' st k n h o) : Sim S pc ls ((0, z) :: st) k n h o := by
  subst hl
  exact fun r h' ho H locs la hH hf hv => lv_istore_n hS.1 hS.2.1 d hi hv hn (lv' := (l_p1 i (0, z) ls).map fun q => (q.1, g_v S.1 q.2)) (by rw [l_f1]; rfl) fun la' hv' => kk r h' ho H locs la' hH hf hv'
theorem s_istore (hS : SO S own cc) {i : Nat} {z : Int} {ls' : List (Nat × Nat × Int)} (d : decode cc pc = .ok (.istore i, 2)) (hn : i < S.2.2.1) (hl : l_p1 i (0, z) ls = ls') (kk : Sim S (pc + 2) ls' st k n h o) : Sim S pc ls ((0, z) :: st) k n h o := by
  subst hl
  exact fun r h' ho H locs la hH hf hv => lv_istore hS.1 hS.2.1 d hv hn (lv' := (l_p1 i (0, z) ls).map fun q => (q.1, g_v S.1 q.2)) (by rw [l_f1]; rfl) fun la' hv' => kk r h' ho H locs la' hH hf hv'
theorem s_lstore_n (hS : SO S own cc) {q : Fin 4} {i : Nat} {z : Int} {ls' : List (Nat × Nat × Int)} (d : decode cc pc = .ok (.lstore_n q, 1)) (hi : (q : Nat) = i) (hn : i + 1 < S.2.2.1) (hl : l_p2 i (1, z) ls = ls') (kk : Sim S (pc + 1) ls' st k n h o) : Sim S pc ls ((1, z) :: st) k n h o := by
  subst hl
  exact fun r h' ho H locs la hH hf hv => lv_lstore_n hS.1 hS.2.1 d hi hv hn (lv' := (l_p2 i (1, z) ls).map fun q => (q.1, g_v S.1 q.2)) (by rw [l_f2]; rfl) fun la' hv' => kk r h' ho H locs la' hH hf hv'
theorem s_lstore (hS : SO S own cc) {i : Nat} {z : Int} {ls' : List (Nat × Nat × Int)} (d : decode cc pc = .ok (.lstore i, 2)) (hn : i + 1 < S.2.2.1) (hl : l_p2 i (1, z) ls = ls') (kk : Sim S (pc + 2) ls' st k n h o) : Sim S pc ls ((1, z) :: st) k n h o := by
  subst hl
  exact fun r h' ho H locs la hH hf hv => lv_lstore hS.1 hS.2.1 d hv hn (lv' := (l_p2 i (1, z) ls).map fun q => (q.1, g_v S.1 q.2)) (by rw [l_f2]; rfl) fun la' hv' => kk r h' ho H locs la' hH hf hv'
theorem s_astore_n (hS : SO S own cc) {q : Fin 4} {i : Nat} {z : Int} {ls' : List (Nat × Nat × Int)} (d : decode cc pc = .ok (.astore_n q, 1)) (hi : (q : Nat) = i) (hn : i < S.2.2.1) (hl : l_p1 i (2, z) ls = ls') (kk : Sim S (pc + 1) ls' st k n h o) : Sim S pc ls ((2, z) :: st) k n h o := by
  subst hl
  intro r h' ho H locs la hH hf hv
  by_cases e : z = 0
  · subst e
    exact lv_astore_nN hS.1 hS.2.1 d hi hv hn (lv' := (l_p1 i (2, 0) ls).map fun q => (q.1, g_v S.1 q.2)) (by rw [l_f1]; rfl) fun la' hv' => kk r h' ho H locs la' hH hf hv'
  · simp only [List.map_cons, gv2 _ e]
    exact lv_astore_n hS.1 hS.2.1 d hi hv hn (lv' := (l_p1 i (2, z) ls).map fun q => (q.1, g_v S.1 q.2)) (by rw [l_f1, ← gv2 _ e]; rfl) fun la' hv' => kk r h' ho H locs la' hH hf hv'
theorem s_astore (hS : SO S own cc) {i : Nat} {z : Int} {ls' : List (Nat × Nat × Int)} (d : decode cc pc = .ok (.astore i, 2)) (hn : i < S.2.2.1) (hl : l_p1 i (2, z) ls = ls') (kk : Sim S (pc + 2) ls' st k n h o) : Sim S pc ls ((2, z) :: st) k n h o := by
  subst hl
  intro r h' ho H locs la hH hf hv
  by_cases e : z = 0
  · subst e
    exact lv_astoreN hS.1 hS.2.1 d hv hn (lv' := (l_p1 i (2, 0) ls).map fun q => (q.1, g_v S.1 q.2)) (by rw [l_f1]; rfl) fun la' hv' => kk r h' ho H locs la' hH hf hv'
  · simp only [List.map_cons, gv2 _ e]
    exact lv_astore hS.1 hS.2.1 d hv hn (lv' := (l_p1 i (2, z) ls).map fun q => (q.1, g_v S.1 q.2)) (by rw [l_f1, ← gv2 _ e]; rfl) fun la' hv' => kk r h' ho H locs la' hH hf hv'
theorem s_iinc (hS : SO S own cc) {i : Nat} {z w : Int} {ls' : List (Nat × Nat × Int)} (d : decode cc pc = .ok (.iinc i w, 3)) (j : Nat) (hj : ls[j]? = some (i, 0, z)) (hn : i < S.2.2.1) (hl : l_p1 i (0, z + w) ls = ls') (kk : Sim S (pc + 3) ls' st k n h o) : Sim S pc ls st k n h o := by
  subst hl
  intro r h' ho H locs la hH hf hv
  refine lv_iinc (k := j) (x := i32 z) (v := i32 (z + w)) hS.1 hS.2.1 d hv (by rw [List.getElem?_map, hj]; rfl) (by rw [i32_add]; rfl) hn (lv' := (l_p1 i (0, z + w) ls).map fun q => (q.1, g_v S.1 q.2)) (by rw [l_f1]; rfl) fun la' hv' => kk r h' ho H locs la' hH hf hv'
-- constants
theorem s_iconst (hS : SO S own cc) {z : Int} (d : decode cc pc = .ok (.iconst z, 1)) (kk : Sim S (pc + 1) ls ((0, z) :: st) k n h o) : Sim S pc ls st k n h o :=
  fun r h' ho H locs la hH hf hv => lv_iconst hS.1 hS.2.1 d rfl (kk r h' ho H locs la hH hf hv)
theorem s_bipush (hS : SO S own cc) {z : Int} (d : decode cc pc = .ok (.bipush z, 2)) (e : (Int8.ofInt z).toInt32 = Int32.ofInt z) (kk : Sim S (pc + 2) ls ((0, z) :: st) k n h o) : Sim S pc ls st k n h o :=
  fun r h' ho H locs la hH hf hv => lv_bipush hS.1 hS.2.1 d e (kk r h' ho H locs la hH hf hv)
theorem s_sipush (hS : SO S own cc) {z : Int} (d : decode cc pc = .ok (.sipush z, 3)) (e : (Int16.ofInt z).toInt32 = Int32.ofInt z) (kk : Sim S (pc + 3) ls ((0, z) :: st) k n h o) : Sim S pc ls st k n h o :=
  fun r h' ho H locs la hH hf hv => lv_sipush hS.1 hS.2.1 d e (kk r h' ho H locs la hH hf hv)
theorem s_lconst0 (hS : SO S own cc) (d : decode cc pc = .ok (.lconst 0, 1)) (kk : Sim S (pc + 1) ls ((1, 0) :: st) k n h o) : Sim S pc ls st k n h o :=
  fun r h' ho H locs la hH hf hv => lv_lconst hS.1 hS.2.1 d (v := i64 0) (by decide +kernel) (kk r h' ho H locs la hH hf hv)
theorem s_lconst1 (hS : SO S own cc) (d : decode cc pc = .ok (.lconst 1, 1)) (kk : Sim S (pc + 1) ls ((1, 1) :: st) k n h o) : Sim S pc ls st k n h o :=
  fun r h' ho H locs la hH hf hv => lv_lconst hS.1 hS.2.1 d (v := i64 1) (by decide +kernel) (kk r h' ho H locs la hH hf hv)
theorem gw_in {w : Cond} (h1 : w ∈ lw_tbl) (h2 : goodWord w = true) : w ∈ gw_ := List.mem_filter.mpr ⟨h1, h2⟩
theorem s_ldc (hS : SO S own cc) {ix : Nat} {v : Int32} {z : Int} (w : Cond.constant own ix v ∈ gw_) (e : i32 z = v) (d : decode cc pc = .ok (.ldc ix, 2)) (kk : Sim S (pc + 2) ls ((0, z) :: st) k n h o) : Sim S pc ls st k n h o := by
  subst e
  exact fun r h' ho H locs la hH hf hv => lv_ldc hS.1 hS.2.1 hS.2.2.2.1 (hS.2.2.2.2.1 _ w) d (kk r h' ho H locs la hH hf hv)
theorem s_ldcw (hS : SO S own cc) {ix : Nat} {v : Int32} {z : Int} (w : Cond.constant own ix v ∈ gw_) (e : i32 z = v) (d : decode cc pc = .ok (.ldc_w ix, 3)) (kk : Sim S (pc + 3) ls ((0, z) :: st) k n h o) : Sim S pc ls st k n h o := by
  subst e
  exact fun r h' ho H locs la hH hf hv => lv_ldcw hS.1 hS.2.1 hS.2.2.2.1 (hS.2.2.2.2.1 _ w) d (kk r h' ho H locs la hH hf hv)
theorem s_ldc2 (hS : SO S own cc) {ix : Nat} {v : Int64} {z : Int} (w : Cond.constantLong own ix v ∈ gw_) (e : i64 z = v) (d : decode cc pc = .ok (.ldc2_w ix, 3)) (kk : Sim S (pc + 3) ls ((1, z) :: st) k n h o) : Sim S pc ls st k n h o := by
  subst e
  exact fun r h' ho H locs la hH hf hv => lv_ldc2 hS.1 hS.2.1 hS.2.2.2.1 (hS.2.2.2.2.1 _ w) d (kk r h' ho H locs la hH hf hv)
theorem s_null (hS : SO S own cc) (d : decode cc pc = .ok (.aconst_null, 1)) (kk : Sim S (pc + 1) ls ((2, 0) :: st) k n h o) : Sim S pc ls st k n h o :=
  fun r h' ho H locs la hH hf hv => lv_null hS.1 hS.2.1 d (kk r h' ho H locs la hH hf hv)
-- stack
theorem s_dup (hS : SO S own cc) {t : Nat} {z : Int} (d : decode cc pc = .ok (.dup, 1)) (hc : t ≠ 1) (kk : Sim S (pc + 1) ls ((t, z) :: (t, z) :: st) k n h o) : Sim S pc ls ((t, z) :: st) k n h o :=
  fun r h' ho H locs la hH hf hv => lv_dup hS.1 hS.2.1 d (gv_cat1 _ hc) (kk r h' ho H locs la hH hf hv)
theorem s_dup2 (hS : SO S own cc) {t t2 : Nat} {z z2 : Int} (d : decode cc pc = .ok (.dup2, 1)) (hc : t ≠ 1) (hu : t2 ≠ 1) (kk : Sim S (pc + 1) ls ((t, z) :: (t2, z2) :: (t, z) :: (t2, z2) :: st) k n h o) : Sim S pc ls ((t, z) :: (t2, z2) :: st) k n h o :=
  fun r h' ho H locs la hH hf hv => lv_dup2_11 hS.1 hS.2.1 d (gv_cat1 _ hc) (gv_cat1 _ hu) (kk r h' ho H locs la hH hf hv)
theorem s_dup2l (hS : SO S own cc) {z : Int} (d : decode cc pc = .ok (.dup2, 1)) (kk : Sim S (pc + 1) ls ((1, z) :: (1, z) :: st) k n h o) : Sim S pc ls ((1, z) :: st) k n h o :=
  fun r h' ho H locs la hH hf hv => lv_dup2_2 hS.1 hS.2.1 d rfl (kk r h' ho H locs la hH hf hv)
theorem s_pop (hS : SO S own cc) {t : Nat} {z : Int} (d : decode cc pc = .ok (.pop, 1)) (hc : t ≠ 1) (kk : Sim S (pc + 1) ls st k n h o) : Sim S pc ls ((t, z) :: st) k n h o :=
  fun r h' ho H locs la hH hf hv => lv_pop hS.1 hS.2.1 d (gv_cat1 _ hc) (kk r h' ho H locs la hH hf hv)
/-- a computed number gets a name -/
theorem s_let {t : Nat} {z : Int} {f : Int → Option (Int × AH)} (kk : ∀ x : Int, Sim S pc ls ((t, x) :: st) k n h (f x)) : Sim S pc ls ((t, z) :: st) k n h ((some z).bind f) := kk z
theorem s_goto (hS : SO S own cc) {off : Int} {tgt : Nat} (d : decode cc pc = .ok (.goto off, 3)) (ht : (pc : Int) + off = (tgt : Int)) (kk : Sim S tgt ls st k n h o) : Sim S pc ls st k n h o :=
  fun r h' ho H locs la hH hf hv => lv_goto hS.1 hS.2.1 d ht (kk r h' ho H locs la hH hf hv)
end SA
