/-! ===== a rule's test: the Model's ways on ===== -/
section
variable {b : Int → Int} {L m p q t d : Int} {ms : List CD} {B : List Int} {h h' : AH} {r : PR}
theorem sk_mem : ∀ (B : List Int), SKq B h → ((∃ i : Int, 0 ≤ i ∧ i < (B.length : Int) ∧ h_V h 53 i = 91) ↔ 91 ∈ B)
  | [], _ => ⟨fun ⟨i, a, c, _⟩ => by rw [List.length_nil] at c; omega, fun z => absurd z (List.not_mem_nil)⟩
  | x :: B, H => by
    have ih := sk_mem B H.2
    rw [List.mem_cons, List.length_cons]
    constructor
    · rintro ⟨i, a, c, e⟩
      by_cases z : i = B.length
      · left; rw [← e, z, H.1]
      · right; exact ih.1 ⟨i, a, by omega, e⟩
    · rintro (z | z)
      · exact ⟨B.length, by omega, by omega, by rw [H.1]; exact z.symm⟩
      · obtain ⟨i, a, c, e⟩ := ih.2 z
        exact ⟨i, a, by omega, e⟩
theorem sk_ok : ∀ (B : List Int), SKq B h → okB B → ∀ i : Int, 0 ≤ i → i < (B.length : Int) → 0 ≤ h_V h 53 i ∧ h_V h 53 i ≤ 91
  | [], _, _, i, a, c => by rw [List.length_nil] at c; omega
  | x :: B, H, ok, i, a, c => by
    rw [List.length_cons] at c
    by_cases z : i = B.length
    · rw [z, H.1]; have := ok.hd; omega
    · exact sk_ok B H.2 ok.tl i a (by omega)
theorem m_isIns (H : MQr L b t ms m p B d h) (ok : okB B) (hB : (B.length : Int) ≤ 400) : f_M_isInside 46 h = some (b01 (decide (91 ∈ B)), h) := by
  have so := sk_ok B (ok.sk H.2.2.1) ok
  have sm := sk_mem B (ok.sk H.2.2.1)
  have lp : ∀ (n e : Nat) (i : Int), 0 ≤ i → i + n = B.length → (∀ j, 0 ≤ j → j < i → h_V h 53 j ≠ 91) → it_ (fun (k : Int × AH → Option (Int × AH)) (s : Int × AH) => F_M_isInside_2 46 (fun a0 a1 => k (a0, a1)) s.1 s.2) (n + 1 + e) (i, h) = some (b01 (decide (91 ∈ B)), h) := by
    intro n
    induction n with
    | zero =>
      intro e i i0 i1 hj
      rw [show 0 + 1 + e = e + 1 by omega, it_un]
      unfold F_M_isInside_2
      dsimp only
      rw [H.g16 ok, Option.bind_some, nmi (z := (B.length : Int)) (by omega) (by omega), nmi (z := i) (by omega) (by omega), if_pos (by omega), cb_0, decide_eq_false (fun z => by obtain ⟨j, a, c, e⟩ := sm.2 z; exact hj j a (by omega) e)]
      rfl
    | succ n ih =>
      intro e i i0 i1 hj
      have s1 := so i i0 (by omega)
      rw [show n + 1 + 1 + e = (n + 1 + e) + 1 by omega, it_un]
      have st : ∀ kf : Int × AH → Option (Int × AH), F_M_isInside_2 46 (fun a0 a1 => kf (a0, a1)) i h = if h_V h 53 i = 91 then some (1, h) else kf (i + 1, h) := fun kf => by
        unfold F_M_isInside_2
        rw [H.g16 ok, Option.bind_some, nmi (z := (B.length : Int)) (by omega) (by omega), nmi (z := i) (by omega) (by omega), if_neg (by omega), H.g15, Option.bind_some, H.a53 i0 (by omega), Option.bind_some, nmi (z := h_V h 53 i) (by omega) (by omega), nmi (z := 91) (by decide) (by decide), cb_1]
        by_cases y : h_V h 53 i = 91
        · rw [if_neg (fun z => z y), if_pos y]
        · rw [if_pos y, if_neg y]
      refine (st _).trans ?_
      by_cases y : h_V h 53 i = 91
      · rw [if_pos y, decide_eq_true (sm.1 ⟨i, i0, by omega, y⟩)]; rfl
      · rw [if_neg y]
        refine ih e (i + 1) (by omega) (by omega) fun j j0 j1 => ?_
        by_cases z : j = i
        · rw [z]; exact y
        · exact hj j j0 (by omega)
  have := lp B.length (1000000 - B.length - 1) 0 (Int.le_refl 0) (by omega) (fun j j0 j1 => by omega)
  rw [show B.length + 1 + (1000000 - B.length - 1) = fu_ by unfold fu_; omega] at this
  exact this
def tE (e : Nat) : Int → AH → Option (Int × AH) := fun a0 a1 => it_ (fun (k : Int × AH → Option (Int × AH)) (s : Int × AH) => F_M_tested_12 46 (fun a0 a1 => k (a0, a1)) s.1 s.2) e (a0, a1)
def cLo (e : Nat) (h : AH) : Option (Int × AH) := it_ (fun (k : AH → Option (Int × AH)) (s : AH) => F_M_closes_5 46 (fun a0 => k (a0)) s) e h
def fLo (e : Nat) (z : Int) (h : AH) : Option (Int × AH) := it_ (fun (k : Int × AH → Option (Int × AH)) (s : Int × AH) => F_M_fact_2 46 (fun a0 a1 => k (a0, a1)) s.1 s.2) e (z, h)
/-- behind what is closed: a word that joins, or the end -/
def kJ (e : Nat) (h : AH) : Option (Int × AH) := c_k h 11 46 <| bd_ (f_M_isWord 46 6385252 h) fun v14 h15 => if nm v14 ≠ 0 then (f_M_tested_54 (tE e) 46 1 h15) else (c_k h15 11 46 <| bd_ (f_M_isWord 46 28530 h15) fun v16 h17 => if nm v16 = 0 then (f_M_tested_54 (tE e) 46 0 h17) else (f_M_tested_54 (tE e) 46 1 h17))
def cNx (ec e : Nat) (h : AH) : Option (Int × AH) := bd_ (cLo ec h) fun _ h13 => kJ e h13
def cAx (ef e : Nat) (h : AH) : Option (Int × AH) := bd_ (fLo ef 1 h) fun v10 h11 => if nm v10 ≠ 0 then (c_k h11 11 46 <| bd_ (f_M_closes 46 h11) fun _ h13 => kJ e h13) else c_b 0 (some (0, h11))
theorem tE_un (e : Nat) (z : Int) (h : AH) : tE (e + 1) z h = F_M_tested_12 46 (fun a0 a1 => tE e a0 a1) z h := rfl
theorem cLo_un (e : Nat) (h : AH) : cLo (e + 1) h = F_M_closes_5 46 (fun a0 => cLo e a0) h := rfl
theorem fLo_un (e : Nat) (z : Int) (h : AH) : fLo (e + 1) z h = F_M_fact_2 46 (fun a0 a1 => fLo e a0 a1) z h := rfl
theorem tE_1 (e : Nat) (H : h_T h 46 = 11) : tE (e + 1) 1 h = cAx fu_ e h := by
  rw [tE_un]
  unfold F_M_tested_12
  rw [if_neg (show ¬ nm 1 = 0 by decide +kernel), ck_pos H]
  rfl
/-- a fact, and all 'not' ahead of it -/
def SJ (L : Int) (b : Int → Int) (t : Int) (ms : List CD) (B : List Int) (d : Int) (h : AH) (o : Option (Int × AH)) (r : PR) : Prop := (r.1 ≠ 0 → FM t h o r.1) ∧ (r.1 = 0 → ∃ (ec e : Nat) (h' : AH), o = cNx ec e h' ∧ 1000 ≤ ec + r.2.2.2 ∧ 1000 ≤ e + r.2.2.2 ∧ MQr L b t (ms ++ r.2.1 ++ lyo 3 B) r.2.2.1 r.2.2.2 (lyr 3 B) (d - lyd 3 B) h' ∧ Ag (XRs t) h h')
theorem SJ.pre {h0 : AH} {o : Option (Int × AH)} (g : Ag (XRs t) h0 h) (H : SJ L b t ms B d h o r) : SJ L b t ms B d h0 o r :=
  ⟨fun z => (H.1 z).pre g, fun z => by obtain ⟨ec, e, h', a1, a2, a3, a4, a5⟩ := H.2 z; exact ⟨ec, e, h', a1, a2, a3, a4, g.tr a5⟩⟩
/-- a comparison -/
theorem m_leaf (H : MQr L b t ms m p B d h) (m0 : 0 ≤ m) (m1 : m ≤ 60) (ok : okB B) (hl : (ms.length : Int) + B.length ≤ p) {ef e : Nat} (f1 : 1 ≤ ef) (f2 : 1000 ≤ e + p) : SJ L b t ms B d h (bd_ (fLo ef 0 h) fun v10 h11 => if nm v10 ≠ 0 then (c_k h11 11 46 <| bd_ (f_M_closes 46 h11) fun _ h13 => kJ e h13) else c_b 0 (some (0, h11))) (pC b L m p) := by
  have l := H.1.hL
  obtain ⟨ef', rfl⟩ : ∃ k, ef = k + 1 := ⟨ef - 1, by omega⟩
  have J := m_comp H m0 m1 (by omega)
  have cg := pC_g (b := b) H.1.2.2.2.1 H.1.2.2.2.2 l.2 m0 m1
  rw [fLo_un]
  unfold F_M_fact_2
  rw [if_pos nm_0, ck_pos H.1.1.1]
  generalize pC b L m p = r at *
  refine ⟨fun z => ?_, fun z => ?_⟩
  · obtain ⟨h1, e1, v1, g1⟩ := J.1 z
    rw [e1, bd_some, cb_0, bd_some, if_neg (show ¬ nm 0 ≠ 0 from fun y => y nm_0), cb_0]
    exact ⟨h1, rfl, v1, g1⟩
  · obtain ⟨h1, e1, H1, g1⟩ := J.2 z
    have c1 := cg.2 z
    obtain ⟨h2, e2, H2, g2⟩ := m_lay3 (k := 3) (by decide) (by decide) ok (by rw [List.length_append]; omega) H1
    rw [e1, bd_some, cb_1, bd_some, if_pos (show nm 1 ≠ 0 by decide +kernel), ck_pos H1.1.1.1]
    unfold f_M_closes
    rw [ck_pos H1.1.1.1, e2, bd_some]
    exact ⟨fu_, e, h2, rfl, by unfold fu_; omega, by omega, H2, g1.tr g2⟩
end
