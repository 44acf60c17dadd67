/-! ===== the class: its fixed cells ===== -/
def bt_ : List (Int × Int × Int) := [(1, 10, 0), (2, 9, 0), (3, 20, 400), (4, 2, 0), (5, 21, 5), (6, 20, 5), (7, 5, 0), (8, 20, 400), (9, 24, 6), (10, 1, 0), (11, 6, 0), (12, 8, 0), (13, 21, 5), (14, 20, 5), (15, 20, 5), (16, 20, 5), (17, 20, 5), (18, 20, 60), (19, 20, 60), (20, 21, 60), (21, 20, 25), (22, 20, 15), (23, 8, 0), (24, 21, 5), (25, 20, 5), (26, 20, 5), (27, 20, 5), (28, 20, 10), (29, 20, 10), (30, 20, 10), (31, 25, 4), (32, 3, 0), (33, 26, 20), (34, 8, 0), (35, 21, 5), (36, 20, 5), (37, 20, 5), (38, 20, 5), (39, 7, 0), (40, 20, 5), (41, 20, 5), (42, 20, 5), (43, 20, 16), (44, 20, 16), (45, 20, 35)]
def bp_ : List (Int × Int × Int) := [(1, 0, 2), (1, 1, 4), (1, 2, 7), (1, 3, 9), (1, 5, 10), (1, 6, 31), (1, 7, 32), (1, 8, 34), (1, 9, 39), (1, 10, 43), (1, 11, 44), (1, 12, 45), (2, 0, 3), (4, 0, 2), (4, 1, 5), (4, 2, 6), (7, 0, 2), (7, 1, 8), (10, 0, 11), (10, 1, 23), (10, 2, 28), (10, 3, 29), (10, 4, 30), (11, 0, 12), (11, 1, 17), (11, 2, 18), (11, 3, 19), (11, 4, 20), (11, 5, 21), (11, 6, 22), (12, 0, 13), (12, 1, 14), (12, 2, 15), (12, 3, 16), (23, 0, 24), (23, 1, 25), (23, 2, 26), (23, 3, 27), (32, 0, 33), (34, 0, 35), (34, 1, 36), (34, 2, 37), (34, 3, 38), (39, 0, 40), (39, 1, 41), (39, 2, 42)]
def BP (h : AH) : Prop := (∀ q ∈ bt_, h_T h q.1 = q.2.1 ∧ h_N h q.1 = q.2.2) ∧ ∀ q ∈ bp_, h_V h q.1 q.2.1 = q.2.2
theorem BP.t {h : AH} (H : BP h) (i : Nat) {q : Int × Int × Int} (e : bt_[i]? = some q) : h_T h q.1 = q.2.1 ∧ h_N h q.1 = q.2.2 := H.1 q (List.mem_of_getElem? e)
theorem BP.p {h : AH} (H : BP h) (i : Nat) {q : Int × Int × Int} (e : bp_[i]? = some q) : h_V h q.1 q.2.1 = q.2.2 := H.2 q (List.mem_of_getElem? e)
theorem bt_r : ∀ q ∈ bt_, 1 ≤ q.1 ∧ q.1 ≤ 45 := by decide
theorem BP.mv {h h' : AH} (H : BP h) (e1 : ∀ a, 1 ≤ a → a ≤ 45 → h_T h' a = h_T h a ∧ h_N h' a = h_N h a) (e2 : ∀ q ∈ bp_, h_V h' q.1 q.2.1 = h_V h q.1 q.2.1) : BP h' := by
  refine ⟨fun q hq => ?_, fun q hq => by rw [e2 q hq]; exact H.2 q hq⟩
  have r := bt_r q hq
  rw [(e1 _ r.1 r.2).1, (e1 _ r.1 r.2).2]; exact H.1 q hq
theorem BP.ag {X : Int → Int → Prop} {h h' : AH} (H : BP h) (g : Ag X h h') (hX : ∀ q ∈ bp_, ¬ X q.1 q.2.1) : BP h' :=
  H.mv (fun a _ _ => ⟨g.2.1 a, g.2.2.1 a⟩) fun q hq => g.2.2.2 _ _ (hX q hq)
theorem BP.k1 {h : AH} (H : BP h) : h_T h 1 = 10 := (H.t 0 rfl).1
theorem BP.k2 {h : AH} (H : BP h) : h_T h 2 = 9 := (H.t 1 rfl).1
theorem BP.k3 {h : AH} (H : BP h) : h_T h 3 = 20 ∧ h_N h 3 = 400 := H.t 2 rfl
theorem BP.k4 {h : AH} (H : BP h) : h_T h 4 = 2 := (H.t 3 rfl).1
theorem BP.k5 {h : AH} (H : BP h) : h_T h 5 = 21 ∧ h_N h 5 = 5 := H.t 4 rfl
theorem BP.k6 {h : AH} (H : BP h) : h_T h 6 = 20 ∧ h_N h 6 = 5 := H.t 5 rfl
theorem BP.k7 {h : AH} (H : BP h) : h_T h 7 = 5 := (H.t 6 rfl).1
theorem BP.k8 {h : AH} (H : BP h) : h_T h 8 = 20 ∧ h_N h 8 = 400 := H.t 7 rfl
theorem BP.k9 {h : AH} (H : BP h) : h_T h 9 = 24 ∧ h_N h 9 = 6 := H.t 8 rfl
theorem BP.k10 {h : AH} (H : BP h) : h_T h 10 = 1 := (H.t 9 rfl).1
theorem BP.k11 {h : AH} (H : BP h) : h_T h 11 = 6 := (H.t 10 rfl).1
theorem BP.k12 {h : AH} (H : BP h) : h_T h 12 = 8 := (H.t 11 rfl).1
theorem BP.k13 {h : AH} (H : BP h) : h_T h 13 = 21 ∧ h_N h 13 = 5 := H.t 12 rfl
theorem BP.k14 {h : AH} (H : BP h) : h_T h 14 = 20 ∧ h_N h 14 = 5 := H.t 13 rfl
theorem BP.k15 {h : AH} (H : BP h) : h_T h 15 = 20 ∧ h_N h 15 = 5 := H.t 14 rfl
theorem BP.k16 {h : AH} (H : BP h) : h_T h 16 = 20 ∧ h_N h 16 = 5 := H.t 15 rfl
theorem BP.k17 {h : AH} (H : BP h) : h_T h 17 = 20 ∧ h_N h 17 = 5 := H.t 16 rfl
theorem BP.k18 {h : AH} (H : BP h) : h_T h 18 = 20 ∧ h_N h 18 = 60 := H.t 17 rfl
theorem BP.k19 {h : AH} (H : BP h) : h_T h 19 = 20 ∧ h_N h 19 = 60 := H.t 18 rfl
theorem BP.k20 {h : AH} (H : BP h) : h_T h 20 = 21 ∧ h_N h 20 = 60 := H.t 19 rfl
theorem BP.k21 {h : AH} (H : BP h) : h_T h 21 = 20 ∧ h_N h 21 = 25 := H.t 20 rfl
theorem BP.k22 {h : AH} (H : BP h) : h_T h 22 = 20 ∧ h_N h 22 = 15 := H.t 21 rfl
theorem BP.k23 {h : AH} (H : BP h) : h_T h 23 = 8 := (H.t 22 rfl).1
theorem BP.k24 {h : AH} (H : BP h) : h_T h 24 = 21 ∧ h_N h 24 = 5 := H.t 23 rfl
theorem BP.k25 {h : AH} (H : BP h) : h_T h 25 = 20 ∧ h_N h 25 = 5 := H.t 24 rfl
theorem BP.k26 {h : AH} (H : BP h) : h_T h 26 = 20 ∧ h_N h 26 = 5 := H.t 25 rfl
theorem BP.k27 {h : AH} (H : BP h) : h_T h 27 = 20 ∧ h_N h 27 = 5 := H.t 26 rfl
theorem BP.k28 {h : AH} (H : BP h) : h_T h 28 = 20 ∧ h_N h 28 = 10 := H.t 27 rfl
theorem BP.k29 {h : AH} (H : BP h) : h_T h 29 = 20 ∧ h_N h 29 = 10 := H.t 28 rfl
theorem BP.k30 {h : AH} (H : BP h) : h_T h 30 = 20 ∧ h_N h 30 = 10 := H.t 29 rfl
theorem BP.k31 {h : AH} (H : BP h) : h_T h 31 = 25 ∧ h_N h 31 = 4 := H.t 30 rfl
theorem BP.k32 {h : AH} (H : BP h) : h_T h 32 = 3 := (H.t 31 rfl).1
theorem BP.k33 {h : AH} (H : BP h) : h_T h 33 = 26 ∧ h_N h 33 = 20 := H.t 32 rfl
theorem BP.k34 {h : AH} (H : BP h) : h_T h 34 = 8 := (H.t 33 rfl).1
theorem BP.k35 {h : AH} (H : BP h) : h_T h 35 = 21 ∧ h_N h 35 = 5 := H.t 34 rfl
theorem BP.k36 {h : AH} (H : BP h) : h_T h 36 = 20 ∧ h_N h 36 = 5 := H.t 35 rfl
theorem BP.k37 {h : AH} (H : BP h) : h_T h 37 = 20 ∧ h_N h 37 = 5 := H.t 36 rfl
theorem BP.k38 {h : AH} (H : BP h) : h_T h 38 = 20 ∧ h_N h 38 = 5 := H.t 37 rfl
theorem BP.k39 {h : AH} (H : BP h) : h_T h 39 = 7 := (H.t 38 rfl).1
theorem BP.k40 {h : AH} (H : BP h) : h_T h 40 = 20 ∧ h_N h 40 = 5 := H.t 39 rfl
theorem BP.k41 {h : AH} (H : BP h) : h_T h 41 = 20 ∧ h_N h 41 = 5 := H.t 40 rfl
theorem BP.k42 {h : AH} (H : BP h) : h_T h 42 = 20 ∧ h_N h 42 = 5 := H.t 41 rfl
theorem BP.k43 {h : AH} (H : BP h) : h_T h 43 = 20 ∧ h_N h 43 = 16 := H.t 42 rfl
theorem BP.k44 {h : AH} (H : BP h) : h_T h 44 = 20 ∧ h_N h 44 = 16 := H.t 43 rfl
theorem BP.k45 {h : AH} (H : BP h) : h_T h 45 = 20 ∧ h_N h 45 = 35 := H.t 44 rfl
theorem BP.g1_0 {h : AH} (H : BP h) : g_f h 10 1 0 = some 2 := by rw [gf_pos (H.t 0 rfl).1, H.p 0 rfl]
theorem BP.g1_1 {h : AH} (H : BP h) : g_f h 10 1 1 = some 4 := by rw [gf_pos (H.t 0 rfl).1, H.p 1 rfl]
theorem BP.g1_2 {h : AH} (H : BP h) : g_f h 10 1 2 = some 7 := by rw [gf_pos (H.t 0 rfl).1, H.p 2 rfl]
theorem BP.g1_3 {h : AH} (H : BP h) : g_f h 10 1 3 = some 9 := by rw [gf_pos (H.t 0 rfl).1, H.p 3 rfl]
theorem BP.g1_5 {h : AH} (H : BP h) : g_f h 10 1 5 = some 10 := by rw [gf_pos (H.t 0 rfl).1, H.p 4 rfl]
theorem BP.g1_6 {h : AH} (H : BP h) : g_f h 10 1 6 = some 31 := by rw [gf_pos (H.t 0 rfl).1, H.p 5 rfl]
theorem BP.g1_7 {h : AH} (H : BP h) : g_f h 10 1 7 = some 32 := by rw [gf_pos (H.t 0 rfl).1, H.p 6 rfl]
theorem BP.g1_8 {h : AH} (H : BP h) : g_f h 10 1 8 = some 34 := by rw [gf_pos (H.t 0 rfl).1, H.p 7 rfl]
theorem BP.g1_9 {h : AH} (H : BP h) : g_f h 10 1 9 = some 39 := by rw [gf_pos (H.t 0 rfl).1, H.p 8 rfl]
theorem BP.g1_10 {h : AH} (H : BP h) : g_f h 10 1 10 = some 43 := by rw [gf_pos (H.t 0 rfl).1, H.p 9 rfl]
theorem BP.g1_11 {h : AH} (H : BP h) : g_f h 10 1 11 = some 44 := by rw [gf_pos (H.t 0 rfl).1, H.p 10 rfl]
theorem BP.g1_12 {h : AH} (H : BP h) : g_f h 10 1 12 = some 45 := by rw [gf_pos (H.t 0 rfl).1, H.p 11 rfl]
theorem BP.g2_0 {h : AH} (H : BP h) : g_f h 9 2 0 = some 3 := by rw [gf_pos (H.t 1 rfl).1, H.p 12 rfl]
theorem BP.g4_0 {h : AH} (H : BP h) : g_f h 2 4 0 = some 2 := by rw [gf_pos (H.t 3 rfl).1, H.p 13 rfl]
theorem BP.g4_1 {h : AH} (H : BP h) : g_f h 2 4 1 = some 5 := by rw [gf_pos (H.t 3 rfl).1, H.p 14 rfl]
theorem BP.g4_2 {h : AH} (H : BP h) : g_f h 2 4 2 = some 6 := by rw [gf_pos (H.t 3 rfl).1, H.p 15 rfl]
theorem BP.g7_0 {h : AH} (H : BP h) : g_f h 5 7 0 = some 2 := by rw [gf_pos (H.t 6 rfl).1, H.p 16 rfl]
theorem BP.g7_1 {h : AH} (H : BP h) : g_f h 5 7 1 = some 8 := by rw [gf_pos (H.t 6 rfl).1, H.p 17 rfl]
theorem BP.g10_0 {h : AH} (H : BP h) : g_f h 1 10 0 = some 11 := by rw [gf_pos (H.t 9 rfl).1, H.p 18 rfl]
theorem BP.g10_1 {h : AH} (H : BP h) : g_f h 1 10 1 = some 23 := by rw [gf_pos (H.t 9 rfl).1, H.p 19 rfl]
theorem BP.g10_2 {h : AH} (H : BP h) : g_f h 1 10 2 = some 28 := by rw [gf_pos (H.t 9 rfl).1, H.p 20 rfl]
theorem BP.g10_3 {h : AH} (H : BP h) : g_f h 1 10 3 = some 29 := by rw [gf_pos (H.t 9 rfl).1, H.p 21 rfl]
theorem BP.g10_4 {h : AH} (H : BP h) : g_f h 1 10 4 = some 30 := by rw [gf_pos (H.t 9 rfl).1, H.p 22 rfl]
theorem BP.g11_0 {h : AH} (H : BP h) : g_f h 6 11 0 = some 12 := by rw [gf_pos (H.t 10 rfl).1, H.p 23 rfl]
theorem BP.g11_1 {h : AH} (H : BP h) : g_f h 6 11 1 = some 17 := by rw [gf_pos (H.t 10 rfl).1, H.p 24 rfl]
theorem BP.g11_2 {h : AH} (H : BP h) : g_f h 6 11 2 = some 18 := by rw [gf_pos (H.t 10 rfl).1, H.p 25 rfl]
theorem BP.g11_3 {h : AH} (H : BP h) : g_f h 6 11 3 = some 19 := by rw [gf_pos (H.t 10 rfl).1, H.p 26 rfl]
theorem BP.g11_4 {h : AH} (H : BP h) : g_f h 6 11 4 = some 20 := by rw [gf_pos (H.t 10 rfl).1, H.p 27 rfl]
theorem BP.g11_5 {h : AH} (H : BP h) : g_f h 6 11 5 = some 21 := by rw [gf_pos (H.t 10 rfl).1, H.p 28 rfl]
theorem BP.g11_6 {h : AH} (H : BP h) : g_f h 6 11 6 = some 22 := by rw [gf_pos (H.t 10 rfl).1, H.p 29 rfl]
theorem BP.g12_0 {h : AH} (H : BP h) : g_f h 8 12 0 = some 13 := by rw [gf_pos (H.t 11 rfl).1, H.p 30 rfl]
theorem BP.g12_1 {h : AH} (H : BP h) : g_f h 8 12 1 = some 14 := by rw [gf_pos (H.t 11 rfl).1, H.p 31 rfl]
theorem BP.g12_2 {h : AH} (H : BP h) : g_f h 8 12 2 = some 15 := by rw [gf_pos (H.t 11 rfl).1, H.p 32 rfl]
theorem BP.g12_3 {h : AH} (H : BP h) : g_f h 8 12 3 = some 16 := by rw [gf_pos (H.t 11 rfl).1, H.p 33 rfl]
theorem BP.g23_0 {h : AH} (H : BP h) : g_f h 8 23 0 = some 24 := by rw [gf_pos (H.t 22 rfl).1, H.p 34 rfl]
theorem BP.g23_1 {h : AH} (H : BP h) : g_f h 8 23 1 = some 25 := by rw [gf_pos (H.t 22 rfl).1, H.p 35 rfl]
theorem BP.g23_2 {h : AH} (H : BP h) : g_f h 8 23 2 = some 26 := by rw [gf_pos (H.t 22 rfl).1, H.p 36 rfl]
theorem BP.g23_3 {h : AH} (H : BP h) : g_f h 8 23 3 = some 27 := by rw [gf_pos (H.t 22 rfl).1, H.p 37 rfl]
theorem BP.g32_0 {h : AH} (H : BP h) : g_f h 3 32 0 = some 33 := by rw [gf_pos (H.t 31 rfl).1, H.p 38 rfl]
theorem BP.g34_0 {h : AH} (H : BP h) : g_f h 8 34 0 = some 35 := by rw [gf_pos (H.t 33 rfl).1, H.p 39 rfl]
theorem BP.g34_1 {h : AH} (H : BP h) : g_f h 8 34 1 = some 36 := by rw [gf_pos (H.t 33 rfl).1, H.p 40 rfl]
theorem BP.g34_2 {h : AH} (H : BP h) : g_f h 8 34 2 = some 37 := by rw [gf_pos (H.t 33 rfl).1, H.p 41 rfl]
theorem BP.g34_3 {h : AH} (H : BP h) : g_f h 8 34 3 = some 38 := by rw [gf_pos (H.t 33 rfl).1, H.p 42 rfl]
theorem BP.g39_0 {h : AH} (H : BP h) : g_f h 7 39 0 = some 40 := by rw [gf_pos (H.t 38 rfl).1, H.p 43 rfl]
theorem BP.g39_1 {h : AH} (H : BP h) : g_f h 7 39 1 = some 41 := by rw [gf_pos (H.t 38 rfl).1, H.p 44 rfl]
theorem BP.g39_2 {h : AH} (H : BP h) : g_f h 7 39 2 = some 42 := by rw [gf_pos (H.t 38 rfl).1, H.p 45 rfl]
theorem BP.ts12 {h : AH} (H : BP h) : TS 12 h := ⟨(H.t 11 rfl).1, ⟨H.p 30 rfl, H.p 31 rfl, H.p 32 rfl, H.p 33 rfl⟩, H.t 12 rfl, H.t 13 rfl, H.t 14 rfl, H.t 15 rfl⟩
theorem BP.ts23 {h : AH} (H : BP h) : TS 23 h := ⟨(H.t 22 rfl).1, ⟨H.p 34 rfl, H.p 35 rfl, H.p 36 rfl, H.p 37 rfl⟩, H.t 23 rfl, H.t 24 rfl, H.t 25 rfl, H.t 26 rfl⟩
theorem BP.ts34 {h : AH} (H : BP h) : TS 34 h := ⟨(H.t 33 rfl).1, ⟨H.p 39 rfl, H.p 40 rfl, H.p 41 rfl, H.p 42 rfl⟩, H.t 34 rfl, H.t 35 rfl, H.t 36 rfl, H.t 37 rfl⟩
