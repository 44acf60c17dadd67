/-! ===== a rule's test: the Model, what stands open ===== -/
section
variable {b : Int → Int} {L m p q t d : Int} {ms : List CD} {B : List Int} {h h' : AH} {r : PR}
def stq (x : Int) : Int := if x = 13 then 1 else if x = 12 then 2 else if x = 11 then 3 else 0
def cop (x : Int) : Int := if x = 11 then 14 else x
def okB (B : List Int) : Prop := ∀ x ∈ B, x = 11 ∨ x = 12 ∨ x = 13 ∨ x = 91
def lyo (k : Int) : List Int → List CD
  | [] => []
  | x :: B => if k ≤ stq x then (cop x, 0) :: lyo k B else []
def lyr (k : Int) : List Int → List Int
  | [] => []
  | x :: B => if k ≤ stq x then lyr k B else x :: B
def lyd (k : Int) : List Int → Int
  | [] => 0
  | x :: B => if k ≤ stq x then (if x = 11 then 1 else 0) + lyd k B else 0
theorem okB.tl {x : Int} (H : okB (x :: B)) : okB B := fun y hy => H y (List.mem_cons_of_mem _ hy)
theorem okB.hd {x : Int} (H : okB (x :: B)) : x = 11 ∨ x = 12 ∨ x = 13 ∨ x = 91 := H x List.mem_cons_self
theorem okB.no (H : okB B) : ¬ (B.length = 2 ∧ B.getD 1 0 = -7) := fun ⟨z1, z2⟩ => by
  match B, H, z1, z2 with
  | [x, y], H, _, z2 =>
    have : y = -7 := z2
    have := H y (List.mem_cons_of_mem _ List.mem_cons_self)
    omega
theorem okB.bl (H : okB B) : bln B = B.length := if_neg H.no
theorem okB.sk (H : okB B) (S : SKo B h) : SKq B h := by
  rcases S with z | z
  · exact absurd z H.no
  · exact z
theorem okB.cs {x : Int} (H : okB B) (hx : x = 11 ∨ x = 12 ∨ x = 13 ∨ x = 91) : okB (x :: B) := fun y hy => by
  rcases List.mem_cons.1 hy with z | z
  · rw [z]; exact hx
  · exact H y z
theorem ly_n (k : Int) : ∀ B : List Int, (lyo k B).length + (lyr k B).length = B.length
  | [] => rfl
  | x :: B => by
    have := ly_n k B
    unfold lyo lyr
    by_cases c : k ≤ stq x
    · rw [if_pos c, if_pos c, List.length_cons, List.length_cons]; omega
    · rw [if_neg c, if_neg c]; simp
theorem lyr_ok {k : Int} : ∀ B : List Int, okB B → okB (lyr k B)
  | [], H => H
  | x :: B, H => by
    unfold lyr
    by_cases c : k ≤ stq x
    · rw [if_pos c]; exact lyr_ok B H.tl
    · rw [if_neg c]; exact H
theorem m_str {x : Int} (hx : R32 x) (h : AH) : f_M_strength x h = some (stq x, h) := by
  unfold f_M_strength stq
  rw [nmi hx.1 hx.2, nmi (z := 13) (by decide) (by decide), nmi (z := 12) (by decide) (by decide), nmi (z := 11) (by decide) (by decide)]
  by_cases c1 : x = 13
  · rw [if_neg (fun z => z c1), if_pos c1]
  rw [if_pos c1, if_neg c1]
  by_cases c2 : x = 12
  · rw [if_neg (fun z => z c2), if_pos c2]
  rw [if_pos c2, if_neg c2]
  by_cases c3 : x = 11
  · rw [if_neg (fun z => z c3), if_pos c3]
  · rw [if_pos c3, if_neg c3]
/-- numbers of the Model's own: which stay -/
theorem MQr.st {k v : Int} (H : MQr L b t ms m p B d h) (hk : k = 13 ∨ k = 16) : MX L b p (h_S h 46 k v) ∧ (h_V (h_S h 46 k v) 46 9 = 0 ∧ h_V (h_S h 46 k v) 46 11 = t ∧ h_V (h_S h 46 k v) 46 12 = m) ∧ ML t ms (h_S h 46 k v) ∧ Ag (XRs t) h (h_S h 46 k v) := by
  obtain ⟨a1, ⟨b1, b2, b3, b4, b5⟩, a3, a4, a5⟩ := H
  have g : Ag (XRs t) h (h_S h 46 k v) := Ag.rf.st (by unfold XRs; omega)
  have w : ∀ i, i ≠ k → h_V (h_S h 46 k v) 46 i = h_V h 46 i := fun i hi => by rw [hV_eq, if_neg hi]
  exact ⟨⟨a1.1.ag g XRs_np, a1.2.1.mv fun a i z => by rw [hV_S', if_neg (by omega)], by rw [w _ (by omega)]; exact a1.2.2.1, a1.2.2.2⟩, ⟨by rw [w _ (by omega)]; exact b1, by rw [w _ (by omega)]; exact b2, by rw [w _ (by omega)]; exact b3⟩, a4.mv fun a i z => hV_ne (by omega), g⟩
theorem MQr.deep {v : Int} (H : MQr L b t ms m p B d h) : MQr L b t ms m p B v (h_S h 46 13 v) ∧ Ag (XRs t) h (h_S h 46 13 v) := by
  obtain ⟨x, ⟨y1, y2, y3⟩, z, g⟩ := H.st (k := 13) (v := v) (Or.inl rfl)
  exact ⟨⟨x, ⟨y1, y2, y3, by rw [hV_eq, if_pos rfl], by rw [hV_eq, if_neg (by decide)]; exact H.2.1.2.2.2.2⟩, SKo.cg H.2.2.1 fun i _ _ => hV_ne (by decide), z, H.2.2.2.2⟩, g⟩
theorem MQr.pop {x : Int} (H : MQr L b t ms m p (x :: B) d h) (ok : okB (x :: B)) : MQr L b t ms m p B d (h_S h 46 16 B.length) ∧ Ag (XRs t) h (h_S h 46 16 B.length) := by
  obtain ⟨x, ⟨y1, y2, y3⟩, z, g⟩ := H.st (k := 16) (v := B.length) (Or.inr rfl)
  exact ⟨⟨x, ⟨y1, y2, y3, by rw [hV_eq, if_neg (by decide)]; exact H.2.1.2.2.2.1, by rw [hV_eq, if_pos rfl, ok.tl.bl]⟩, Or.inr (SKq.cg _ (ok.sk H.2.2.1).2 fun i _ _ => hV_ne (by decide)), z, H.2.2.2.2⟩, g⟩
theorem MQr.push (H : MQr L b t ms m p B d h) (ok : okB B) {x : Int} (hx : x = 11 ∨ x = 12 ∨ x = 13 ∨ x = 91) : MQr L b t ms m p (x :: B) d (h_S (h_S h 53 B.length x) 46 16 ((B.length : Int) + 1)) ∧ Ag (XRs t) h (h_S (h_S h 53 B.length x) 46 16 ((B.length : Int) + 1)) := by
  have g1 : Ag (XRs t) h (h_S h 53 B.length x) := Ag.rf.st (by unfold XRs; omega)
  have v : ∀ a i, a ≠ 53 → h_V (h_S h 53 B.length x) a i = h_V h a i := fun a i z => hV_ne z
  have H1 : MQr L b t ms m p B d (h_S h 53 B.length x) := ⟨⟨H.1.1.ag g1 XRs_np, H.1.2.1.mv fun a i z => v _ _ (by omega), by rw [v _ _ (by decide)]; exact H.1.2.2.1, H.1.2.2.2⟩, ⟨by rw [v _ _ (by decide)]; exact H.2.1.1, by rw [v _ _ (by decide)]; exact H.2.1.2.1, by rw [v _ _ (by decide)]; exact H.2.1.2.2.1, by rw [v _ _ (by decide)]; exact H.2.1.2.2.2.1, by rw [v _ _ (by decide)]; exact H.2.1.2.2.2.2⟩, SKo.cg H.2.2.1 fun i i0 i1 => by rw [hV_eq, if_neg (by omega)], H.2.2.2.1.mv fun a i z => v _ _ (by omega), H.2.2.2.2⟩
  obtain ⟨a1, ⟨y1, y2, y3⟩, z, g⟩ := H1.st (k := 16) (v := (B.length : Int) + 1) (Or.inr rfl)
  exact ⟨⟨a1, ⟨y1, y2, y3, by rw [hV_eq, if_neg (by decide)]; exact H1.2.1.2.2.2.1, by rw [hV_eq, if_pos rfl, (ok.cs hx).bl]; rfl⟩, Or.inr ⟨by rw [hV_ne (by decide), hV_eq, if_pos rfl], SKq.cg _ (ok.sk H1.2.2.1) fun i _ _ => hV_ne (by decide)⟩, z, H.2.2.2.2⟩, g1.tr g⟩
theorem MQr.g15 (H : MQr L b t ms m p B d h) : g_f h 11 46 15 = some 53 := by rw [gf_pos H.1.1.1, (H.1.1.at 6 rfl).2.2]
theorem MQr.g16 (H : MQr L b t ms m p B d h) (ok : okB B) : g_f h 11 46 16 = some (B.length : Int) := by rw [gf_pos H.1.1.1, H.2.1.2.2.2.2, ok.bl]
theorem MQr.a53 (H : MQr L b t ms m p B d h) {i : Int} (i0 : 0 ≤ i) (i1 : i < 400) : a_g h 20 53 i = some (h_V h 53 i) := ag_pos (H.1.1.at 6 rfl).1 (H.1.1.at 6 rfl).2.1 (by decide) i0 i1
theorem MQr.w53 (H : MQr L b t ms m p B d h) {i v : Int} (i0 : 0 ≤ i) (i1 : i < 400) : a_s h 20 53 i v = some (h_S h 53 i v) := as_pos (H.1.1.at 6 rfl).1 (H.1.1.at 6 rfl).2.1 (by decide) i0 i1
theorem m_opens (H : MQr L b t ms m p B d h) (ok : okB B) (hB : (B.length : Int) < 400) (d0 : 0 ≤ d) (d1 : d ≤ 10) {x : Int} (hx : x = 11 ∨ x = 12 ∨ x = 13 ∨ x = 91) : (d < 10 → ∃ h', f_M_opens 46 x h = some (1, h') ∧ MQr L b t ms m p (x :: B) (d + 1) h' ∧ Ag (XRs t) h h') ∧ (¬ d < 10 → FM t h (f_M_opens 46 x h) (1 + 8 * p + 2)) := by
  have M := H.1.1
  unfold f_M_opens
  rw [gf_pos M.1, H.2.1.2.2.2.1, Option.bind_some, nmi (z := d) (by omega) (by omega), nmi (z := 10) (by decide) (by decide)]
  refine ⟨fun c => ?_, fun c => ?_⟩
  · obtain ⟨H1, g1⟩ := H.deep (v := d + 1)
    obtain ⟨H2, g2⟩ := H1.push ok hx
    rw [if_pos (by omega), Option.bind_some, sf_pos M.1, Option.bind_some, H1.g15, Option.bind_some, H1.g16 ok, Option.bind_some, H1.w53 (by omega) hB, Option.bind_some, gf_pos (show h_T (h_S (h_S h 46 13 (d + 1)) 53 B.length x) 46 = 11 from M.1), hV_ne (by decide), H1.2.1.2.2.2.2, ok.bl, Option.bind_some, sf_pos (show h_T (h_S (h_S h 46 13 (d + 1)) 53 B.length x) 46 = 11 from M.1), Option.bind_some, cb_1]
    exact ⟨_, rfl, H2, g1.tr g2⟩
  · have nc : ¬ d ≠ 10 := by omega
    obtain ⟨h1, e1, v1, g1⟩ := m_fail H 2 p
    rw [if_neg nc, H.1.gp, Option.bind_some, ck_pos M.1, e1, bd_some, cb_0]
    exact ⟨h1, rfl, v1, g1⟩
theorem m_lay_ {k : Int} (k0 : 1 ≤ k) (k1 : k ≤ 3) (B : List Int) : ∀ (e : Nat) (ms : List CD) (d : Int) (h : AH), okB B → (ms.length : Int) + B.length ≤ 400 → MQr L b t ms m p B d h → ∃ h', it_ (fun (k0 : AH → Option (Int × AH)) (s : AH) => F_M_layDown_0 46 k (fun a0 => k0 (a0)) s) (B.length + 1 + e) h = some (0, h') ∧ MQr L b t (ms ++ lyo k B) m p (lyr k B) (d - lyd k B) h' ∧ Ag (XRs t) h h' := by
  induction B with
  | nil =>
    intro e ms d h ok hl H
    have e0 : MQr L b t (ms ++ lyo k []) m p (lyr k []) (d - lyd k []) h := by
      show MQr L b t (ms ++ []) m p [] (d - 0) h
      rw [List.append_nil, Int.sub_zero]; exact H
    refine ⟨h, ?_, e0, Ag.rf⟩
    rw [show ([] : List Int).length + 1 + e = e + 1 from Nat.add_comm _ _, it_un]
    unfold F_M_layDown_0
    rw [H.g16 ok, Option.bind_some, show (([] : List Int).length : Int) = 0 from rfl, nm_0, if_pos (Int.le_refl 0)]
  | cons x B ih =>
    intro e ms d h ok hl H
    have hx := ok.hd
    have l16 : ((x :: B).length : Int) = B.length + 1 := by rw [List.length_cons]; omega
    rw [l16] at hl
    have M := H.1.1
    have tx : h_V h 53 B.length = x := (ok.sk H.2.2.1).1
    have sx : 0 ≤ stq x ∧ stq x ≤ 3 := by unfold stq; (repeat' split) <;> omega
    rw [show (x :: B).length + 1 + e = (B.length + 1 + e) + 1 by rw [List.length_cons]; omega, it_un]
    have st : ∀ kf : AH → Option (Int × AH), F_M_layDown_0 46 k kf h = if stq x < k then some (0, h) else (s_f h 11 46 16 (B.length : Int)).bind fun h8 => (g_f h8 11 46 15).bind fun v9 => (g_f h8 11 46 16).bind fun v10 => (a_g h8 20 v9 v10).bind fun v11 => c_k h8 11 46 <| bd_ (f_M_puts 46 v11 0 h8) fun _ h13 => (g_f h13 11 46 15).bind fun v14 => (g_f h13 11 46 16).bind fun v15 => (a_g h13 20 v14 v15).bind fun v16 => if nm v16 ≠ nm 11 then (kf h13) else ((g_f h13 11 46 13).bind fun v17 => (s_f h13 11 46 13 (v17 - 1)).bind fun h18 => kf h18) := fun kf => by
      unfold F_M_layDown_0
      rw [H.g16 ok, Option.bind_some, l16, nmi (z := (B.length : Int) + 1) (by omega) (by omega), if_neg (by omega), H.g15, Option.bind_some, Option.bind_some, show (B.length : Int) + 1 - 1 = B.length by omega, H.a53 (by omega) (by omega), Option.bind_some, tx, m_str ⟨by omega, by omega⟩, bd_some, nmi (z := stq x) (by omega) (by omega), nmi (z := k) (by omega) (by omega), H.g16 ok, Option.bind_some, l16, show (B.length : Int) + 1 - 1 = B.length by omega]
    by_cases c : k ≤ stq x
    · have nx : x ≠ 91 := fun z => by rw [z] at c; have : stq 91 = 0 := rfl; omega
      have mc : mop (cop x) = x := by rcases hx with z | z | z | z <;> first | (rw [z]; rfl) | exact absurd z nx
      obtain ⟨H1, g1⟩ := H.pop ok
      obtain ⟨h2, e2, H2, g2, v2⟩ := m_puts0 H1 (by omega) (c := (cop x, 0))
      have e2' : f_M_puts 46 x 0 (h_S h 46 16 B.length) = some (0, h2) := by
        have : f_M_puts 46 (mop (cop x)) 0 (h_S h 46 16 B.length) = some (0, h2) := e2
        rw [mc] at this
        exact this
      have tx1 : h_V (h_S h 46 16 B.length) 53 B.length = x := by rw [hV_ne (by decide)]; exact tx
      have tx2 : h_V h2 53 B.length = x := by rw [v2]; exact tx1
      have st2 : ∀ kf : AH → Option (Int × AH), F_M_layDown_0 46 k kf h = if x = 11 then kf (h_S h2 46 13 (d - 1)) else kf h2 := fun kf => by
        rw [st, if_neg (by omega), sf_pos M.1, Option.bind_some, H1.g15, Option.bind_some, H1.g16 ok.tl, Option.bind_some, H1.a53 (by omega) (by omega), Option.bind_some, tx1, ck_pos H1.1.1.1, e2', bd_some, H2.g15, Option.bind_some, H2.g16 ok.tl, Option.bind_some, H2.a53 (by omega) (by omega), Option.bind_some, tx2, nmi (z := x) (by omega) (by omega), nmi (z := 11) (by decide) (by decide), gf_pos H2.1.1.1, H2.2.1.2.2.2.1, Option.bind_some, sf_pos H2.1.1.1, Option.bind_some]
        by_cases y : x = 11
        · rw [if_neg (fun z => z y), if_pos y]
        · rw [if_pos y, if_neg y]
      have eo : lyo k (x :: B) = (cop x, 0) :: lyo k B := if_pos c
      have er : lyr k (x :: B) = lyr k B := if_pos c
      have ed : lyd k (x :: B) = (if x = 11 then 1 else 0) + lyd k B := if_pos c
      rw [eo, er, ed]
      have la : ∀ y : List CD, ms ++ [(cop x, 0)] ++ y = ms ++ (cop x, 0) :: y := fun y => by rw [List.append_assoc]; rfl
      have ln : ((ms ++ [(cop x, (0 : Int))]).length : Int) + B.length ≤ 400 := by rw [List.length_append]; simp only [List.length_cons, List.length_nil]; omega
      by_cases y : x = 11
      · obtain ⟨H3, g3⟩ := H2.deep (v := d - 1)
        obtain ⟨h4, e4, H4, g4⟩ := ih e _ _ _ ok.tl ln H3
        rw [la] at H4
        refine ⟨h4, ?_, ?_, ((g1.tr g2).tr g3).tr g4⟩
        · refine (st2 _).trans ?_
          rw [if_pos y]; exact e4
        · rw [if_pos y, show d - (1 + lyd k B) = d - 1 - lyd k B by omega]; exact H4
      · obtain ⟨h4, e4, H4, g4⟩ := ih e _ _ _ ok.tl ln H2
        rw [la] at H4
        refine ⟨h4, ?_, ?_, (g1.tr g2).tr g4⟩
        · refine (st2 _).trans ?_
          rw [if_neg y]; exact e4
        · rw [if_neg y, Int.zero_add]; exact H4
    · have eo : lyo k (x :: B) = [] := if_neg c
      have er : lyr k (x :: B) = x :: B := if_neg c
      have ed : lyd k (x :: B) = 0 := if_neg c
      rw [eo, er, ed, List.append_nil, Int.sub_zero]
      refine ⟨h, ?_, H, Ag.rf⟩
      refine (st _).trans ?_
      rw [if_pos (by omega)]
theorem m_lay3 {k : Int} (k0 : 1 ≤ k) (k1 : k ≤ 3) (ok : okB B) (hl : (ms.length : Int) + B.length ≤ 400) (H : MQr L b t ms m p B d h) : ∃ h', f_M_layDown 46 k h = some (0, h') ∧ MQr L b t (ms ++ lyo k B) m p (lyr k B) (d - lyd k B) h' ∧ Ag (XRs t) h h' := by
  obtain ⟨h', e, q⟩ := m_lay_ k0 k1 B (1000000 - (B.length + 1)) ms d h ok hl H
  rw [show B.length + 1 + (1000000 - (B.length + 1)) = fu_ by unfold fu_; omega] at e
  exact ⟨h', e, q⟩
end
