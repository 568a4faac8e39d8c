/-! ===== the law: calls ===== -/
section LS
variable {g : Nat × (Nat → Int32)} {h : ka_H} {R : ka_R → ka_H → Prop} {A : kA} {i : Nat}
theorem kl_work (I : kLI g h A i) (nx : kLN g R h i) (z5 z6 : Value) : kq_ex g 201 0 R 995 [.ref 1000092, .ref 1, .ref 72, .ref 102, .int (nI i), z5, z6] [] h := by
  obtain ⟨hf, hi, hL, hb, w, hC, hM⟩ := I
  obtain ⟨A', co, v, w1, hco, cY, rY⟩ := kw_work w (g.2 (i + 1)) (g.2 (i + 2))
  have hin : vp_in (0 : Int32) 1 := nI_in (c := 0) (N := 1) (by omega) (by omega)
  refine kq_seg (fun p => Nat.beq p 2873) 160 ?_
  refine And.intro (ks_ld hf hi hL (j := 1) (by decide)) ?_
  refine And.intro (ks_ld hf hi hL (j := 2) (by decide)) ?_
  rw [ks_v hf hi hL (j := 1) (by decide) (show nI i + Int32.ofInt 1 = nI i + nI 1 from rfl), ks_v hf hi hL (j := 2) (by decide) (show nI i + Int32.ofInt 2 = nI i + nI 2 from rfl)]
  refine kq_cnR (cY g h _ hf hb hC (fun h1 f1 c1 fc j1 => ⟨_, rfl, f1, ?_⟩))
  have hM1 : kmA A h1 := hM.fc fc
  refine And.intro (ks_ld f1 hi hL (j := 1) (by decide)) ?_
  refine And.intro (ks_ld f1 hi hL (j := 2) (by decide)) ?_
  rw [ks_v f1 hi hL (j := 1) (by decide) (show nI i + Int32.ofInt 1 = nI i + nI 1 from rfl), ks_v f1 hi hL (j := 2) (by decide) (show nI i + Int32.ofInt 2 = nI i + nI 2 from rfl)]
  refine rY g h1 _ f1 hM1 (fun h2 x f2 m2 fm t0 hv => ⟨f2, ?_⟩)
  refine kq_ci (kc_thrown f2) f2 ?_
  rw [t0]
  have fin : ∀ z5 z6, kq_ex g 201 0 R 2873 [.ref 1000092, .ref 1, .ref 72, .ref 102, .int (nI i), z5, z6] [] h2 := fun z5 z6 => nx A' h2 z5 z6 w1 f2 (c1.fm f1.1 fm) m2 (by rw [fm.1]; exact fc.1) (by rw [fm.2.1]; exact fc.2.1)
  refine ⟨fun _ => ⟨fun _ => fin _ _, fun z => ⟨hin, ?_⟩⟩, fun z => absurd rfl z⟩
  have z0 : co = 0 := (nI_eq (b := 0) (by omega) (by omega)).mp z
  rw [show ka_J h2 102 (Int32.ofInt 0).toNatClampNeg = v.toInt64 from (congrFun (fm.2.2.2.2.1 102) 0).trans (j1 z0), hv z0]
  exact ⟨fun _ => fin _ _, fun y => absurd (ks_cmp _) y⟩
theorem kl_finish (I : kLI g h A i) (nx : kLN g R h i) (z5 z6 : Value) : kq_ex g 201 0 R 1063 [.ref 1000092, .ref 1, .ref 72, .ref 102, .int (nI i), z5, z6] [] h := by
  obtain ⟨hf, hi, hL, hb, w, hC, hM⟩ := I
  obtain ⟨A', co, v, w1, hco, cY, rY⟩ := kw_finish w (g.2 (i + 1))
  have hin : vp_in (0 : Int32) 1 := nI_in (c := 0) (N := 1) (by omega) (by omega)
  refine kq_seg (fun p => Nat.beq p 2873) 160 ?_
  refine And.intro (ks_ld hf hi hL (j := 1) (by decide)) ?_
  rw [ks_v hf hi hL (j := 1) (by decide) (show nI i + Int32.ofInt 1 = nI i + nI 1 from rfl)]
  refine kq_cnR (cY g h _ hf hb hC (fun h1 f1 c1 fc j1 => ⟨_, rfl, f1, ?_⟩))
  have hM1 : kmA A h1 := hM.fc fc
  refine And.intro (ks_ld f1 hi hL (j := 1) (by decide)) ?_
  rw [ks_v f1 hi hL (j := 1) (by decide) (show nI i + Int32.ofInt 1 = nI i + nI 1 from rfl)]
  refine rY g h1 _ f1 hM1 (fun h2 x f2 m2 fm t0 hv => ⟨f2, ?_⟩)
  refine kq_ci (kc_thrown f2) f2 ?_
  rw [t0]
  have fin : ∀ z5 z6, kq_ex g 201 0 R 2873 [.ref 1000092, .ref 1, .ref 72, .ref 102, .int (nI i), z5, z6] [] h2 := fun z5 z6 => nx A' h2 z5 z6 w1 f2 (c1.fm f1.1 fm) m2 (by rw [fm.1]; exact fc.1) (by rw [fm.2.1]; exact fc.2.1)
  refine ⟨fun _ => ⟨fun _ => fin _ _, fun z => ⟨hin, ?_⟩⟩, fun z => absurd rfl z⟩
  have z0 : co = 0 := (nI_eq (b := 0) (by omega) (by omega)).mp z
  rw [show ka_J h2 102 (Int32.ofInt 0).toNatClampNeg = v.toInt64 from (congrFun (fm.2.2.2.2.1 102) 0).trans (j1 z0), hv z0]
  exact ⟨fun _ => fin _ _, fun y => absurd (ks_cmp _) y⟩
theorem kl_weight (I : kLI g h A i) (nx : kLN g R h i) (z5 z6 : Value) : kq_ex g 201 0 R 1119 [.ref 1000092, .ref 1, .ref 72, .ref 102, .int (nI i), z5, z6] [] h := by
  obtain ⟨hf, hi, hL, hb, w, hC, hM⟩ := I
  obtain ⟨A', co, v, w1, hco, cY, rY⟩ := kw_weight w (g.2 (i + 1)) (g.2 (i + 2)) (g.2 (i + 3)) (g.2 (i + 4)) (g.2 (i + 5))
  have hin : vp_in (0 : Int32) 1 := nI_in (c := 0) (N := 1) (by omega) (by omega)
  refine kq_seg (fun p => Nat.beq p 2873) 160 ?_
  refine And.intro (ks_ld hf hi hL (j := 1) (by decide)) ?_
  refine And.intro (ks_ld hf hi hL (j := 2) (by decide)) ?_
  refine And.intro (ks_ld hf hi hL (j := 3) (by decide)) ?_
  refine And.intro (ks_ld hf hi hL (j := 4) (by decide)) ?_
  refine And.intro (ks_ld hf hi hL (j := 5) (by decide)) ?_
  rw [ks_v hf hi hL (j := 1) (by decide) (show nI i + Int32.ofInt 1 = nI i + nI 1 from rfl), ks_v hf hi hL (j := 2) (by decide) (show nI i + Int32.ofInt 2 = nI i + nI 2 from rfl), ks_v hf hi hL (j := 3) (by decide) (show nI i + Int32.ofInt 3 = nI i + nI 3 from rfl), ks_v hf hi hL (j := 4) (by decide) (show nI i + Int32.ofInt 4 = nI i + nI 4 from rfl), ks_v hf hi hL (j := 5) (by decide) (show nI i + Int32.ofInt 5 = nI i + nI 5 from rfl)]
  refine kq_cnR (cY g h _ hf hb hC (fun h1 f1 c1 fc j1 => ⟨_, rfl, f1, ?_⟩))
  have hM1 : kmA A h1 := hM.fc fc
  refine And.intro (ks_ld f1 hi hL (j := 1) (by decide)) ?_
  refine And.intro (ks_ld f1 hi hL (j := 2) (by decide)) ?_
  refine And.intro (ks_ld f1 hi hL (j := 3) (by decide)) ?_
  refine And.intro (ks_ld f1 hi hL (j := 4) (by decide)) ?_
  refine And.intro (ks_ld f1 hi hL (j := 5) (by decide)) ?_
  rw [ks_v f1 hi hL (j := 1) (by decide) (show nI i + Int32.ofInt 1 = nI i + nI 1 from rfl), ks_v f1 hi hL (j := 2) (by decide) (show nI i + Int32.ofInt 2 = nI i + nI 2 from rfl), ks_v f1 hi hL (j := 3) (by decide) (show nI i + Int32.ofInt 3 = nI i + nI 3 from rfl), ks_v f1 hi hL (j := 4) (by decide) (show nI i + Int32.ofInt 4 = nI i + nI 4 from rfl), ks_v f1 hi hL (j := 5) (by decide) (show nI i + Int32.ofInt 5 = nI i + nI 5 from rfl)]
  refine rY g h1 _ f1 hM1 (fun h2 x f2 m2 fm t0 hv => ⟨f2, ?_⟩)
  refine kq_ci (kc_thrown f2) f2 ?_
  rw [t0]
  have fin : ∀ z5 z6, kq_ex g 201 0 R 2873 [.ref 1000092, .ref 1, .ref 72, .ref 102, .int (nI i), z5, z6] [] h2 := fun z5 z6 => nx A' h2 z5 z6 w1 f2 (c1.fm f1.1 fm) m2 (by rw [fm.1]; exact fc.1) (by rw [fm.2.1]; exact fc.2.1)
  refine ⟨fun _ => ⟨fun _ => fin _ _, fun z => ⟨hin, ?_⟩⟩, fun z => absurd rfl z⟩
  have z0 : co = 0 := (nI_eq (b := 0) (by omega) (by omega)).mp z
  rw [show ka_J h2 102 (Int32.ofInt 0).toNatClampNeg = v.toInt64 from (congrFun (fm.2.2.2.2.1 102) 0).trans (j1 z0), hv z0]
  exact ⟨fun _ => fin _ _, fun y => absurd (ks_cmp _) y⟩
theorem kl_answer (I : kLI g h A i) (nx : kLN g R h i) (z5 z6 : Value) : kq_ex g 201 0 R 1223 [.ref 1000092, .ref 1, .ref 72, .ref 102, .int (nI i), z5, z6] [] h := by
  obtain ⟨hf, hi, hL, hb, w, hC, hM⟩ := I
  obtain ⟨A', co, v, w1, hco, cY, rY⟩ := kw_answer w (g.2 (i + 1)) (g.2 (i + 2)) (g.2 (i + 3)) (g.2 (i + 4))
  have hin : vp_in (0 : Int32) 1 := nI_in (c := 0) (N := 1) (by omega) (by omega)
  refine kq_seg (fun p => Nat.beq p 2873) 160 ?_
  refine And.intro (ks_ld hf hi hL (j := 1) (by decide)) ?_
  refine And.intro (ks_ld hf hi hL (j := 2) (by decide)) ?_
  refine And.intro (ks_ld hf hi hL (j := 3) (by decide)) ?_
  refine And.intro (ks_ld hf hi hL (j := 4) (by decide)) ?_
  rw [ks_v hf hi hL (j := 1) (by decide) (show nI i + Int32.ofInt 1 = nI i + nI 1 from rfl), ks_v hf hi hL (j := 2) (by decide) (show nI i + Int32.ofInt 2 = nI i + nI 2 from rfl), ks_v hf hi hL (j := 3) (by decide) (show nI i + Int32.ofInt 3 = nI i + nI 3 from rfl), ks_v hf hi hL (j := 4) (by decide) (show nI i + Int32.ofInt 4 = nI i + nI 4 from rfl)]
  refine kq_cnR (cY g h _ hf hb hC (fun h1 f1 c1 fc j1 => ⟨_, rfl, f1, ?_⟩))
  have hM1 : kmA A h1 := hM.fc fc
  refine And.intro (ks_ld f1 hi hL (j := 1) (by decide)) ?_
  refine And.intro (ks_ld f1 hi hL (j := 2) (by decide)) ?_
  refine And.intro (ks_ld f1 hi hL (j := 3) (by decide)) ?_
  refine And.intro (ks_ld f1 hi hL (j := 4) (by decide)) ?_
  rw [ks_v f1 hi hL (j := 1) (by decide) (show nI i + Int32.ofInt 1 = nI i + nI 1 from rfl), ks_v f1 hi hL (j := 2) (by decide) (show nI i + Int32.ofInt 2 = nI i + nI 2 from rfl), ks_v f1 hi hL (j := 3) (by decide) (show nI i + Int32.ofInt 3 = nI i + nI 3 from rfl), ks_v f1 hi hL (j := 4) (by decide) (show nI i + Int32.ofInt 4 = nI i + nI 4 from rfl)]
  refine rY g h1 _ f1 hM1 (fun h2 x f2 m2 fm t0 hv => ⟨f2, ?_⟩)
  refine kq_ci (kc_thrown f2) f2 ?_
  rw [t0]
  have fin : ∀ z5 z6, kq_ex g 201 0 R 2873 [.ref 1000092, .ref 1, .ref 72, .ref 102, .int (nI i), z5, z6] [] h2 := fun z5 z6 => nx A' h2 z5 z6 w1 f2 (c1.fm f1.1 fm) m2 (by rw [fm.1]; exact fc.1) (by rw [fm.2.1]; exact fc.2.1)
  refine ⟨fun _ => ⟨fun _ => fin _ _, fun z => ⟨hin, ?_⟩⟩, fun z => absurd rfl z⟩
  have z0 : co = 0 := (nI_eq (b := 0) (by omega) (by omega)).mp z
  rw [show ka_J h2 102 (Int32.ofInt 0).toNatClampNeg = v.toInt64 from (congrFun (fm.2.2.2.2.1 102) 0).trans (j1 z0), hv z0]
  exact ⟨fun _ => fin _ _, fun y => absurd (ks_cmp _) y⟩
theorem kl_size (I : kLI g h A i) (nx : kLN g R h i) (z5 z6 : Value) : kq_ex g 201 0 R 1315 [.ref 1000092, .ref 1, .ref 72, .ref 102, .int (nI i), z5, z6] [] h := by
  obtain ⟨hf, hi, hL, hb, w, hC, hM⟩ := I
  obtain ⟨A', co, v, w1, hco, cY, rY⟩ := kw_size w (g.2 (i + 1)) (g.2 (i + 2))
  have hin : vp_in (0 : Int32) 1 := nI_in (c := 0) (N := 1) (by omega) (by omega)
  refine kq_seg (fun p => Nat.beq p 2873) 160 ?_
  refine And.intro (ks_ld hf hi hL (j := 1) (by decide)) ?_
  refine And.intro (ks_ld hf hi hL (j := 2) (by decide)) ?_
  rw [ks_v hf hi hL (j := 1) (by decide) (show nI i + Int32.ofInt 1 = nI i + nI 1 from rfl), ks_v hf hi hL (j := 2) (by decide) (show nI i + Int32.ofInt 2 = nI i + nI 2 from rfl)]
  refine kq_cnR (cY g h _ hf hb hC (fun h1 f1 c1 fc j1 => ⟨_, rfl, f1, ?_⟩))
  have hM1 : kmA A h1 := hM.fc fc
  refine And.intro (ks_ld f1 hi hL (j := 1) (by decide)) ?_
  refine And.intro (ks_ld f1 hi hL (j := 2) (by decide)) ?_
  rw [ks_v f1 hi hL (j := 1) (by decide) (show nI i + Int32.ofInt 1 = nI i + nI 1 from rfl), ks_v f1 hi hL (j := 2) (by decide) (show nI i + Int32.ofInt 2 = nI i + nI 2 from rfl)]
  refine rY g h1 _ f1 hM1 (fun h2 x f2 m2 fm t0 hv => ⟨f2, ?_⟩)
  refine kq_ci (kc_thrown f2) f2 ?_
  rw [t0]
  have fin : ∀ z5 z6, kq_ex g 201 0 R 2873 [.ref 1000092, .ref 1, .ref 72, .ref 102, .int (nI i), z5, z6] [] h2 := fun z5 z6 => nx A' h2 z5 z6 w1 f2 (c1.fm f1.1 fm) m2 (by rw [fm.1]; exact fc.1) (by rw [fm.2.1]; exact fc.2.1)
  refine ⟨fun _ => ⟨fun _ => fin _ _, fun z => ⟨hin, ?_⟩⟩, fun z => absurd rfl z⟩
  have z0 : co = 0 := (nI_eq (b := 0) (by omega) (by omega)).mp z
  rw [show ka_J h2 102 (Int32.ofInt 0).toNatClampNeg = v.toInt64 from (congrFun (fm.2.2.2.2.1 102) 0).trans (j1 z0), hv z0]
  exact ⟨fun _ => fin _ _, fun y => absurd (ks_cmp _) y⟩
theorem kl_row (I : kLI g h A i) (nx : kLN g R h i) (z5 z6 : Value) : kq_ex g 201 0 R 1383 [.ref 1000092, .ref 1, .ref 72, .ref 102, .int (nI i), z5, z6] [] h := by
  obtain ⟨hf, hi, hL, hb, w, hC, hM⟩ := I
  obtain ⟨A', co, v, w1, hco, cY, rY⟩ := kw_row w (g.2 (i + 1)) (g.2 (i + 2)) (g.2 (i + 3))
  have hin : vp_in (0 : Int32) 1 := nI_in (c := 0) (N := 1) (by omega) (by omega)
  refine kq_seg (fun p => Nat.beq p 2873) 160 ?_
  refine And.intro (ks_ld hf hi hL (j := 1) (by decide)) ?_
  refine And.intro (ks_ld hf hi hL (j := 2) (by decide)) ?_
  refine And.intro (ks_ld hf hi hL (j := 3) (by decide)) ?_
  rw [ks_v hf hi hL (j := 1) (by decide) (show nI i + Int32.ofInt 1 = nI i + nI 1 from rfl), ks_v hf hi hL (j := 2) (by decide) (show nI i + Int32.ofInt 2 = nI i + nI 2 from rfl), ks_v hf hi hL (j := 3) (by decide) (show nI i + Int32.ofInt 3 = nI i + nI 3 from rfl)]
  refine kq_cnR (cY g h _ hf hb hC (fun h1 f1 c1 fc j1 => ⟨_, rfl, f1, ?_⟩))
  have hM1 : kmA A h1 := hM.fc fc
  refine And.intro (ks_ld f1 hi hL (j := 1) (by decide)) ?_
  refine And.intro (ks_ld f1 hi hL (j := 2) (by decide)) ?_
  refine And.intro (ks_ld f1 hi hL (j := 3) (by decide)) ?_
  rw [ks_v f1 hi hL (j := 1) (by decide) (show nI i + Int32.ofInt 1 = nI i + nI 1 from rfl), ks_v f1 hi hL (j := 2) (by decide) (show nI i + Int32.ofInt 2 = nI i + nI 2 from rfl), ks_v f1 hi hL (j := 3) (by decide) (show nI i + Int32.ofInt 3 = nI i + nI 3 from rfl)]
  refine rY g h1 _ f1 hM1 (fun h2 x f2 m2 fm t0 hv => ⟨f2, ?_⟩)
  refine kq_ci (kc_thrown f2) f2 ?_
  rw [t0]
  have fin : ∀ z5 z6, kq_ex g 201 0 R 2873 [.ref 1000092, .ref 1, .ref 72, .ref 102, .int (nI i), z5, z6] [] h2 := fun z5 z6 => nx A' h2 z5 z6 w1 f2 (c1.fm f1.1 fm) m2 (by rw [fm.1]; exact fc.1) (by rw [fm.2.1]; exact fc.2.1)
  refine ⟨fun _ => ⟨fun _ => fin _ _, fun z => ⟨hin, ?_⟩⟩, fun z => absurd rfl z⟩
  have z0 : co = 0 := (nI_eq (b := 0) (by omega) (by omega)).mp z
  rw [show ka_J h2 102 (Int32.ofInt 0).toNatClampNeg = v.toInt64 from (congrFun (fm.2.2.2.2.1 102) 0).trans (j1 z0), hv z0]
  exact ⟨fun _ => fin _ _, fun y => absurd (ks_cmp _) y⟩
theorem kl_changed (I : kLI g h A i) (nx : kLN g R h i) (z5 z6 : Value) : kq_ex g 201 0 R 1463 [.ref 1000092, .ref 1, .ref 72, .ref 102, .int (nI i), z5, z6] [] h := by
  obtain ⟨hf, hi, hL, hb, w, hC, hM⟩ := I
  obtain ⟨A', co, v, w1, hco, cY, rY⟩ := kw_changed w (g.2 (i + 1)) (g.2 (i + 2)) (g.2 (i + 3))
  have hin : vp_in (0 : Int32) 1 := nI_in (c := 0) (N := 1) (by omega) (by omega)
  refine kq_seg (fun p => Nat.beq p 2873) 160 ?_
  refine And.intro (ks_ld hf hi hL (j := 1) (by decide)) ?_
  refine And.intro (ks_ld hf hi hL (j := 2) (by decide)) ?_
  refine And.intro (ks_ld hf hi hL (j := 3) (by decide)) ?_
  rw [ks_v hf hi hL (j := 1) (by decide) (show nI i + Int32.ofInt 1 = nI i + nI 1 from rfl), ks_v hf hi hL (j := 2) (by decide) (show nI i + Int32.ofInt 2 = nI i + nI 2 from rfl), ks_v hf hi hL (j := 3) (by decide) (show nI i + Int32.ofInt 3 = nI i + nI 3 from rfl)]
  refine kq_cnR (cY g h _ hf hb hC (fun h1 f1 c1 fc j1 => ⟨_, rfl, f1, ?_⟩))
  have hM1 : kmA A h1 := hM.fc fc
  refine And.intro (ks_ld f1 hi hL (j := 1) (by decide)) ?_
  refine And.intro (ks_ld f1 hi hL (j := 2) (by decide)) ?_
  refine And.intro (ks_ld f1 hi hL (j := 3) (by decide)) ?_
  rw [ks_v f1 hi hL (j := 1) (by decide) (show nI i + Int32.ofInt 1 = nI i + nI 1 from rfl), ks_v f1 hi hL (j := 2) (by decide) (show nI i + Int32.ofInt 2 = nI i + nI 2 from rfl), ks_v f1 hi hL (j := 3) (by decide) (show nI i + Int32.ofInt 3 = nI i + nI 3 from rfl)]
  refine rY g h1 _ f1 hM1 (fun h2 x f2 m2 fm t0 hv => ⟨f2, ?_⟩)
  refine kq_ci (kc_thrown f2) f2 ?_
  rw [t0]
  have fin : ∀ z5 z6, kq_ex g 201 0 R 2873 [.ref 1000092, .ref 1, .ref 72, .ref 102, .int (nI i), z5, z6] [] h2 := fun z5 z6 => nx A' h2 z5 z6 w1 f2 (c1.fm f1.1 fm) m2 (by rw [fm.1]; exact fc.1) (by rw [fm.2.1]; exact fc.2.1)
  refine ⟨fun _ => ⟨fun _ => fin _ _, fun z => ⟨hin, ?_⟩⟩, fun z => absurd rfl z⟩
  have z0 : co = 0 := (nI_eq (b := 0) (by omega) (by omega)).mp z
  rw [show ka_J h2 102 (Int32.ofInt 0).toNatClampNeg = v.toInt64 from (congrFun (fm.2.2.2.2.1 102) 0).trans (j1 z0), hv z0]
  exact ⟨fun _ => fin _ _, fun y => absurd (ks_cmp _) y⟩
theorem kl_since (I : kLI g h A i) (nx : kLN g R h i) (z5 z6 : Value) : kq_ex g 201 0 R 1543 [.ref 1000092, .ref 1, .ref 72, .ref 102, .int (nI i), z5, z6] [] h := by
  obtain ⟨hf, hi, hL, hb, w, hC, hM⟩ := I
  obtain ⟨A', co, v, w1, hco, cY, rY⟩ := kw_since w (g.2 (i + 1)) (g.2 (i + 2)) (g.2 (i + 3)) (g.2 (i + 4))
  have hin : vp_in (0 : Int32) 1 := nI_in (c := 0) (N := 1) (by omega) (by omega)
  refine kq_seg (fun p => Nat.beq p 2873) 160 ?_
  refine And.intro (ks_ld hf hi hL (j := 1) (by decide)) ?_
  refine And.intro (ks_ld hf hi hL (j := 2) (by decide)) ?_
  refine And.intro (ks_ld hf hi hL (j := 3) (by decide)) ?_
  refine And.intro (ks_ld hf hi hL (j := 4) (by decide)) ?_
  rw [ks_v hf hi hL (j := 1) (by decide) (show nI i + Int32.ofInt 1 = nI i + nI 1 from rfl), ks_v hf hi hL (j := 2) (by decide) (show nI i + Int32.ofInt 2 = nI i + nI 2 from rfl), ks_v hf hi hL (j := 3) (by decide) (show nI i + Int32.ofInt 3 = nI i + nI 3 from rfl), ks_v hf hi hL (j := 4) (by decide) (show nI i + Int32.ofInt 4 = nI i + nI 4 from rfl)]
  refine kq_cnR (cY g h _ hf hb hC (fun h1 f1 c1 fc j1 => ⟨_, rfl, f1, ?_⟩))
  have hM1 : kmA A h1 := hM.fc fc
  refine And.intro (ks_ld f1 hi hL (j := 1) (by decide)) ?_
  refine And.intro (ks_ld f1 hi hL (j := 2) (by decide)) ?_
  refine And.intro (ks_ld f1 hi hL (j := 3) (by decide)) ?_
  refine And.intro (ks_ld f1 hi hL (j := 4) (by decide)) ?_
  rw [ks_v f1 hi hL (j := 1) (by decide) (show nI i + Int32.ofInt 1 = nI i + nI 1 from rfl), ks_v f1 hi hL (j := 2) (by decide) (show nI i + Int32.ofInt 2 = nI i + nI 2 from rfl), ks_v f1 hi hL (j := 3) (by decide) (show nI i + Int32.ofInt 3 = nI i + nI 3 from rfl), ks_v f1 hi hL (j := 4) (by decide) (show nI i + Int32.ofInt 4 = nI i + nI 4 from rfl)]
  refine rY g h1 _ f1 hM1 (fun h2 x f2 m2 fm t0 hv => ⟨f2, ?_⟩)
  refine kq_ci (kc_thrown f2) f2 ?_
  rw [t0]
  have fin : ∀ z5 z6, kq_ex g 201 0 R 2873 [.ref 1000092, .ref 1, .ref 72, .ref 102, .int (nI i), z5, z6] [] h2 := fun z5 z6 => nx A' h2 z5 z6 w1 f2 (c1.fm f1.1 fm) m2 (by rw [fm.1]; exact fc.1) (by rw [fm.2.1]; exact fc.2.1)
  refine ⟨fun _ => ⟨fun _ => fin _ _, fun z => ⟨hin, ?_⟩⟩, fun z => absurd rfl z⟩
  have z0 : co = 0 := (nI_eq (b := 0) (by omega) (by omega)).mp z
  rw [show ka_J h2 102 (Int32.ofInt 0).toNatClampNeg = v.toInt64 from (congrFun (fm.2.2.2.2.1 102) 0).trans (j1 z0), hv z0]
  exact ⟨fun _ => fin _ _, fun y => absurd (ks_cmp _) y⟩
theorem kl_fold (I : kLI g h A i) (nx : kLN g R h i) (z5 z6 : Value) : kq_ex g 201 0 R 1635 [.ref 1000092, .ref 1, .ref 72, .ref 102, .int (nI i), z5, z6] [] h := by
  obtain ⟨hf, hi, hL, hb, w, hC, hM⟩ := I
  obtain ⟨A', co, v, w1, hco, cY, rY⟩ := kw_fold w (g.2 (i + 1))
  have hin : vp_in (0 : Int32) 1 := nI_in (c := 0) (N := 1) (by omega) (by omega)
  refine kq_seg (fun p => Nat.beq p 2873) 160 ?_
  refine And.intro (ks_ld hf hi hL (j := 1) (by decide)) ?_
  rw [ks_v hf hi hL (j := 1) (by decide) (show nI i + Int32.ofInt 1 = nI i + nI 1 from rfl)]
  refine kq_cnR (cY g h _ hf hb hC (fun h1 f1 c1 fc j1 => ⟨_, rfl, f1, ?_⟩))
  have hM1 : kmA A h1 := hM.fc fc
  refine And.intro (ks_ld f1 hi hL (j := 1) (by decide)) ?_
  rw [ks_v f1 hi hL (j := 1) (by decide) (show nI i + Int32.ofInt 1 = nI i + nI 1 from rfl)]
  refine rY g h1 _ f1 hM1 (fun h2 x f2 m2 fm t0 hv => ⟨f2, ?_⟩)
  refine kq_ci (kc_thrown f2) f2 ?_
  rw [t0]
  have fin : ∀ z5 z6, kq_ex g 201 0 R 2873 [.ref 1000092, .ref 1, .ref 72, .ref 102, .int (nI i), z5, z6] [] h2 := fun z5 z6 => nx A' h2 z5 z6 w1 f2 (c1.fm f1.1 fm) m2 (by rw [fm.1]; exact fc.1) (by rw [fm.2.1]; exact fc.2.1)
  refine ⟨fun _ => ⟨fun _ => fin _ _, fun z => ⟨hin, ?_⟩⟩, fun z => absurd rfl z⟩
  have z0 : co = 0 := (nI_eq (b := 0) (by omega) (by omega)).mp z
  rw [show ka_J h2 102 (Int32.ofInt 0).toNatClampNeg = v.toInt64 from (congrFun (fm.2.2.2.2.1 102) 0).trans (j1 z0), hv z0]
  exact ⟨fun _ => fin _ _, fun y => absurd (ks_cmp _) y⟩
theorem kl_reader (I : kLI g h A i) (nx : kLN g R h i) (z5 z6 : Value) : kq_ex g 201 0 R 1691 [.ref 1000092, .ref 1, .ref 72, .ref 102, .int (nI i), z5, z6] [] h := by
  obtain ⟨hf, hi, hL, hb, w, hC, hM⟩ := I
  obtain ⟨A', co, v, w1, hco, cY, rY⟩ := kw_reader w (g.2 (i + 1))
  have hin : vp_in (0 : Int32) 1 := nI_in (c := 0) (N := 1) (by omega) (by omega)
  refine kq_seg (fun p => Nat.beq p 2873) 160 ?_
  refine And.intro (ks_ld hf hi hL (j := 1) (by decide)) ?_
  rw [ks_v hf hi hL (j := 1) (by decide) (show nI i + Int32.ofInt 1 = nI i + nI 1 from rfl)]
  refine kq_cnR (cY g h _ hf hb hC (fun h1 f1 c1 fc j1 => ⟨_, rfl, f1, ?_⟩))
  have hM1 : kmA A h1 := hM.fc fc
  refine And.intro (ks_ld f1 hi hL (j := 1) (by decide)) ?_
  rw [ks_v f1 hi hL (j := 1) (by decide) (show nI i + Int32.ofInt 1 = nI i + nI 1 from rfl)]
  refine rY g h1 _ f1 hM1 (fun h2 x f2 m2 fm t0 hv => ⟨f2, ?_⟩)
  refine kq_ci (kc_thrown f2) f2 ?_
  rw [t0]
  have fin : ∀ z5 z6, kq_ex g 201 0 R 2873 [.ref 1000092, .ref 1, .ref 72, .ref 102, .int (nI i), z5, z6] [] h2 := fun z5 z6 => nx A' h2 z5 z6 w1 f2 (c1.fm f1.1 fm) m2 (by rw [fm.1]; exact fc.1) (by rw [fm.2.1]; exact fc.2.1)
  refine ⟨fun _ => ⟨fun _ => fin _ _, fun z => ⟨hin, ?_⟩⟩, fun z => absurd rfl z⟩
  have z0 : co = 0 := (nI_eq (b := 0) (by omega) (by omega)).mp z
  rw [show ka_J h2 102 (Int32.ofInt 0).toNatClampNeg = v.toInt64 from (congrFun (fm.2.2.2.2.1 102) 0).trans (j1 z0), hv z0]
  exact ⟨fun _ => fin _ _, fun y => absurd (ks_cmp _) y⟩
theorem kl_gone (I : kLI g h A i) (nx : kLN g R h i) (z5 z6 : Value) : kq_ex g 201 0 R 1747 [.ref 1000092, .ref 1, .ref 72, .ref 102, .int (nI i), z5, z6] [] h := by
  obtain ⟨hf, hi, hL, hb, w, hC, hM⟩ := I
  obtain ⟨A', co, v, w1, hco, cY, rY⟩ := kw_gone w (g.2 (i + 1))
  have hin : vp_in (0 : Int32) 1 := nI_in (c := 0) (N := 1) (by omega) (by omega)
  refine kq_seg (fun p => Nat.beq p 2873) 160 ?_
  refine And.intro (ks_ld hf hi hL (j := 1) (by decide)) ?_
  rw [ks_v hf hi hL (j := 1) (by decide) (show nI i + Int32.ofInt 1 = nI i + nI 1 from rfl)]
  refine kq_cnR (cY g h _ hf hb hC (fun h1 f1 c1 fc j1 => ⟨_, rfl, f1, ?_⟩))
  have hM1 : kmA A h1 := hM.fc fc
  refine And.intro (ks_ld f1 hi hL (j := 1) (by decide)) ?_
  rw [ks_v f1 hi hL (j := 1) (by decide) (show nI i + Int32.ofInt 1 = nI i + nI 1 from rfl)]
  refine rY g h1 _ f1 hM1 (fun h2 x f2 m2 fm t0 hv => ⟨f2, ?_⟩)
  refine kq_ci (kc_thrown f2) f2 ?_
  rw [t0]
  have fin : ∀ z5 z6, kq_ex g 201 0 R 2873 [.ref 1000092, .ref 1, .ref 72, .ref 102, .int (nI i), z5, z6] [] h2 := fun z5 z6 => nx A' h2 z5 z6 w1 f2 (c1.fm f1.1 fm) m2 (by rw [fm.1]; exact fc.1) (by rw [fm.2.1]; exact fc.2.1)
  refine ⟨fun _ => ⟨fun _ => fin _ _, fun z => ⟨hin, ?_⟩⟩, fun z => absurd rfl z⟩
  have z0 : co = 0 := (nI_eq (b := 0) (by omega) (by omega)).mp z
  rw [show ka_J h2 102 (Int32.ofInt 0).toNatClampNeg = v.toInt64 from (congrFun (fm.2.2.2.2.1 102) 0).trans (j1 z0), hv z0]
  exact ⟨fun _ => fin _ _, fun y => absurd (ks_cmp _) y⟩
theorem kl_way (I : kLI g h A i) (nx : kLN g R h i) (z5 z6 : Value) : kq_ex g 201 0 R 1803 [.ref 1000092, .ref 1, .ref 72, .ref 102, .int (nI i), z5, z6] [] h := by
  obtain ⟨hf, hi, hL, hb, w, hC, hM⟩ := I
  obtain ⟨A', co, v, w1, hco, cY, rY⟩ := kw_way w (g.2 (i + 1)) (g.2 (i + 2)) (g.2 (i + 3)) (g.2 (i + 4)) (g.2 (i + 5)) (g.2 (i + 6))
  have hin : vp_in (0 : Int32) 1 := nI_in (c := 0) (N := 1) (by omega) (by omega)
  refine kq_seg (fun p => Nat.beq p 2873) 160 ?_
  refine And.intro (ks_ld hf hi hL (j := 1) (by decide)) ?_
  refine And.intro (ks_ld hf hi hL (j := 2) (by decide)) ?_
  refine And.intro (ks_ld hf hi hL (j := 3) (by decide)) ?_
  refine And.intro (ks_ld hf hi hL (j := 4) (by decide)) ?_
  refine And.intro (ks_ld hf hi hL (j := 5) (by decide)) ?_
  refine And.intro (ks_ld hf hi hL (j := 6) (by decide)) ?_
  rw [ks_v hf hi hL (j := 1) (by decide) (show nI i + Int32.ofInt 1 = nI i + nI 1 from rfl), ks_v hf hi hL (j := 2) (by decide) (show nI i + Int32.ofInt 2 = nI i + nI 2 from rfl), ks_v hf hi hL (j := 3) (by decide) (show nI i + Int32.ofInt 3 = nI i + nI 3 from rfl), ks_v hf hi hL (j := 4) (by decide) (show nI i + Int32.ofInt 4 = nI i + nI 4 from rfl), ks_v hf hi hL (j := 5) (by decide) (show nI i + Int32.ofInt 5 = nI i + nI 5 from rfl), ks_v hf hi hL (j := 6) (by decide) (show nI i + Int32.ofInt 6 = nI i + nI 6 from rfl)]
  refine kq_cnR (cY g h _ hf hb hC (fun h1 f1 c1 fc j1 => ⟨_, rfl, f1, ?_⟩))
  have hM1 : kmA A h1 := hM.fc fc
  refine And.intro (ks_ld f1 hi hL (j := 1) (by decide)) ?_
  refine And.intro (ks_ld f1 hi hL (j := 2) (by decide)) ?_
  refine And.intro (ks_ld f1 hi hL (j := 3) (by decide)) ?_
  refine And.intro (ks_ld f1 hi hL (j := 4) (by decide)) ?_
  refine And.intro (ks_ld f1 hi hL (j := 5) (by decide)) ?_
  refine And.intro (ks_ld f1 hi hL (j := 6) (by decide)) ?_
  rw [ks_v f1 hi hL (j := 1) (by decide) (show nI i + Int32.ofInt 1 = nI i + nI 1 from rfl), ks_v f1 hi hL (j := 2) (by decide) (show nI i + Int32.ofInt 2 = nI i + nI 2 from rfl), ks_v f1 hi hL (j := 3) (by decide) (show nI i + Int32.ofInt 3 = nI i + nI 3 from rfl), ks_v f1 hi hL (j := 4) (by decide) (show nI i + Int32.ofInt 4 = nI i + nI 4 from rfl), ks_v f1 hi hL (j := 5) (by decide) (show nI i + Int32.ofInt 5 = nI i + nI 5 from rfl), ks_v f1 hi hL (j := 6) (by decide) (show nI i + Int32.ofInt 6 = nI i + nI 6 from rfl)]
  refine rY g h1 _ f1 hM1 (fun h2 x f2 m2 fm t0 hv => ⟨f2, ?_⟩)
  refine kq_ci (kc_thrown f2) f2 ?_
  rw [t0]
  have fin : ∀ z5 z6, kq_ex g 201 0 R 2873 [.ref 1000092, .ref 1, .ref 72, .ref 102, .int (nI i), z5, z6] [] h2 := fun z5 z6 => nx A' h2 z5 z6 w1 f2 (c1.fm f1.1 fm) m2 (by rw [fm.1]; exact fc.1) (by rw [fm.2.1]; exact fc.2.1)
  refine ⟨fun _ => ⟨fun _ => fin _ _, fun z => ⟨hin, ?_⟩⟩, fun z => absurd rfl z⟩
  have z0 : co = 0 := (nI_eq (b := 0) (by omega) (by omega)).mp z
  rw [show ka_J h2 102 (Int32.ofInt 0).toNatClampNeg = v.toInt64 from (congrFun (fm.2.2.2.2.1 102) 0).trans (j1 z0), hv z0]
  exact ⟨fun _ => fin _ _, fun y => absurd (ks_cmp _) y⟩
theorem kl_without (I : kLI g h A i) (nx : kLN g R h i) (z5 z6 : Value) : kq_ex g 201 0 R 1921 [.ref 1000092, .ref 1, .ref 72, .ref 102, .int (nI i), z5, z6] [] h := by
  obtain ⟨hf, hi, hL, hb, w, hC, hM⟩ := I
  obtain ⟨A', co, v, w1, hco, cY, rY⟩ := kw_without w (g.2 (i + 1)) (g.2 (i + 2)) (g.2 (i + 3)) (g.2 (i + 4)) (g.2 (i + 5)) (g.2 (i + 6)) (g.2 (i + 7))
  have hin : vp_in (0 : Int32) 1 := nI_in (c := 0) (N := 1) (by omega) (by omega)
  refine kq_seg (fun p => Nat.beq p 2873) 160 ?_
  refine And.intro (ks_ld hf hi hL (j := 1) (by decide)) ?_
  refine And.intro (ks_ld hf hi hL (j := 2) (by decide)) ?_
  refine And.intro (ks_ld hf hi hL (j := 3) (by decide)) ?_
  refine And.intro (ks_ld hf hi hL (j := 4) (by decide)) ?_
  refine And.intro (ks_ld hf hi hL (j := 5) (by decide)) ?_
  refine And.intro (ks_ld hf hi hL (j := 6) (by decide)) ?_
  refine And.intro (ks_ld hf hi hL (j := 7) (by decide)) ?_
  rw [ks_v hf hi hL (j := 1) (by decide) (show nI i + Int32.ofInt 1 = nI i + nI 1 from rfl), ks_v hf hi hL (j := 2) (by decide) (show nI i + Int32.ofInt 2 = nI i + nI 2 from rfl), ks_v hf hi hL (j := 3) (by decide) (show nI i + Int32.ofInt 3 = nI i + nI 3 from rfl), ks_v hf hi hL (j := 4) (by decide) (show nI i + Int32.ofInt 4 = nI i + nI 4 from rfl), ks_v hf hi hL (j := 5) (by decide) (show nI i + Int32.ofInt 5 = nI i + nI 5 from rfl), ks_v hf hi hL (j := 6) (by decide) (show nI i + Int32.ofInt 6 = nI i + nI 6 from rfl), ks_v hf hi hL (j := 7) (by decide) (show nI i + Int32.ofInt 7 = nI i + nI 7 from rfl)]
  refine kq_cnR (cY g h _ hf hb hC (fun h1 f1 c1 fc j1 => ⟨_, rfl, f1, ?_⟩))
  have hM1 : kmA A h1 := hM.fc fc
  refine And.intro (ks_ld f1 hi hL (j := 1) (by decide)) ?_
  refine And.intro (ks_ld f1 hi hL (j := 2) (by decide)) ?_
  refine And.intro (ks_ld f1 hi hL (j := 3) (by decide)) ?_
  refine And.intro (ks_ld f1 hi hL (j := 4) (by decide)) ?_
  refine And.intro (ks_ld f1 hi hL (j := 5) (by decide)) ?_
  refine And.intro (ks_ld f1 hi hL (j := 6) (by decide)) ?_
  refine And.intro (ks_ld f1 hi hL (j := 7) (by decide)) ?_
  rw [ks_v f1 hi hL (j := 1) (by decide) (show nI i + Int32.ofInt 1 = nI i + nI 1 from rfl), ks_v f1 hi hL (j := 2) (by decide) (show nI i + Int32.ofInt 2 = nI i + nI 2 from rfl), ks_v f1 hi hL (j := 3) (by decide) (show nI i + Int32.ofInt 3 = nI i + nI 3 from rfl), ks_v f1 hi hL (j := 4) (by decide) (show nI i + Int32.ofInt 4 = nI i + nI 4 from rfl), ks_v f1 hi hL (j := 5) (by decide) (show nI i + Int32.ofInt 5 = nI i + nI 5 from rfl), ks_v f1 hi hL (j := 6) (by decide) (show nI i + Int32.ofInt 6 = nI i + nI 6 from rfl), ks_v f1 hi hL (j := 7) (by decide) (show nI i + Int32.ofInt 7 = nI i + nI 7 from rfl)]
  refine rY g h1 _ f1 hM1 (fun h2 x f2 m2 fm t0 hv => ⟨f2, ?_⟩)
  refine kq_ci (kc_thrown f2) f2 ?_
  rw [t0]
  have fin : ∀ z5 z6, kq_ex g 201 0 R 2873 [.ref 1000092, .ref 1, .ref 72, .ref 102, .int (nI i), z5, z6] [] h2 := fun z5 z6 => nx A' h2 z5 z6 w1 f2 (c1.fm f1.1 fm) m2 (by rw [fm.1]; exact fc.1) (by rw [fm.2.1]; exact fc.2.1)
  refine ⟨fun _ => ⟨fun _ => fin _ _, fun z => ⟨hin, ?_⟩⟩, fun z => absurd rfl z⟩
  have z0 : co = 0 := (nI_eq (b := 0) (by omega) (by omega)).mp z
  rw [show ka_J h2 102 (Int32.ofInt 0).toNatClampNeg = v.toInt64 from (congrFun (fm.2.2.2.2.1 102) 0).trans (j1 z0), hv z0]
  exact ⟨fun _ => fin _ _, fun y => absurd (ks_cmp _) y⟩
end LS
