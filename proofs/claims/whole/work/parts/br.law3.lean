/-! ===== the law: calls ===== -/
section LS
variable {g : Nat × (Nat → Int32)} {h : ka_H} {R : ka_R → ka_H → Prop} {A : kA} {i : Nat}
theorem kl_needed (I : kLI g h A i) (nx : kLN g R h i) (z5 z6 : Value) : kq_ex g 201 0 R 2053 [.ref 1000092, .ref 1, .ref 72, .ref 102, .int (nI i), z5, z6] [] h := by
  obtain ⟨hf, hi, hL, hb, w, hC, hM⟩ := I
  obtain ⟨A', co, v, w1, hco, cY, rY⟩ := kw_needed w (g.2 (i + 1)) (g.2 (i + 2)) (g.2 (i + 3)) (g.2 (i + 4)) (g.2 (i + 5))
  have hin : vp_in (0 : Int32) 1 := nI_in (c := 0) (N := 1) (by omega) (by omega)
  refine kq_seg (fun p => Nat.beq p 2873) 160 ?_
  refine And.intro (ks_ld hf hi hL (j := 1) (by decide)) ?_
  refine And.intro (ks_ld hf hi hL (j := 2) (by decide)) ?_
  refine And.intro (ks_ld hf hi hL (j := 3) (by decide)) ?_
  refine And.intro (ks_ld hf hi hL (j := 4) (by decide)) ?_
  refine And.intro (ks_ld hf hi hL (j := 5) (by decide)) ?_
  rw [ks_v hf hi hL (j := 1) (by decide) (show nI i + Int32.ofInt 1 = nI i + nI 1 from rfl), ks_v hf hi hL (j := 2) (by decide) (show nI i + Int32.ofInt 2 = nI i + nI 2 from rfl), ks_v hf hi hL (j := 3) (by decide) (show nI i + Int32.ofInt 3 = nI i + nI 3 from rfl), ks_v hf hi hL (j := 4) (by decide) (show nI i + Int32.ofInt 4 = nI i + nI 4 from rfl), ks_v hf hi hL (j := 5) (by decide) (show nI i + Int32.ofInt 5 = nI i + nI 5 from rfl)]
  refine kq_cnR (cY g h _ hf hb hC (fun h1 f1 c1 fc j1 => ⟨_, rfl, f1, ?_⟩))
  have hM1 : kmA A h1 := hM.fc fc
  refine And.intro (ks_ld f1 hi hL (j := 1) (by decide)) ?_
  refine And.intro (ks_ld f1 hi hL (j := 2) (by decide)) ?_
  refine And.intro (ks_ld f1 hi hL (j := 3) (by decide)) ?_
  refine And.intro (ks_ld f1 hi hL (j := 4) (by decide)) ?_
  refine And.intro (ks_ld f1 hi hL (j := 5) (by decide)) ?_
  rw [ks_v f1 hi hL (j := 1) (by decide) (show nI i + Int32.ofInt 1 = nI i + nI 1 from rfl), ks_v f1 hi hL (j := 2) (by decide) (show nI i + Int32.ofInt 2 = nI i + nI 2 from rfl), ks_v f1 hi hL (j := 3) (by decide) (show nI i + Int32.ofInt 3 = nI i + nI 3 from rfl), ks_v f1 hi hL (j := 4) (by decide) (show nI i + Int32.ofInt 4 = nI i + nI 4 from rfl), ks_v f1 hi hL (j := 5) (by decide) (show nI i + Int32.ofInt 5 = nI i + nI 5 from rfl)]
  refine rY g h1 _ f1 hM1 (fun h2 x f2 m2 fm t0 hv => ⟨f2, ?_⟩)
  refine kq_ci (kc_thrown f2) f2 ?_
  rw [t0]
  have fin : ∀ z5 z6, kq_ex g 201 0 R 2873 [.ref 1000092, .ref 1, .ref 72, .ref 102, .int (nI i), z5, z6] [] h2 := fun z5 z6 => nx A' h2 z5 z6 w1 f2 (c1.fm f1.1 fm) m2 (by rw [fm.1]; exact fc.1) (by rw [fm.2.1]; exact fc.2.1)
  refine ⟨fun _ => ⟨fun _ => fin _ _, fun z => ⟨hin, ?_⟩⟩, fun z => absurd rfl z⟩
  have z0 : co = 0 := (nI_eq (b := 0) (by omega) (by omega)).mp z
  rw [show ka_J h2 102 (Int32.ofInt 0).toNatClampNeg = v.toInt64 from (congrFun (fm.2.2.2.2.1 102) 0).trans (j1 z0), hv z0]
  exact ⟨fun _ => fin _ _, fun y => absurd (ks_cmp _) y⟩
theorem kl_kern (I : kLI g h A i) (nx : kLN g R h i) (z5 z6 : Value) : kq_ex g 201 0 R 2157 [.ref 1000092, .ref 1, .ref 72, .ref 102, .int (nI i), z5, z6] [] h := by
  obtain ⟨hf, hi, hL, hb, w, hC, hM⟩ := I
  obtain ⟨A', co, v, w1, hco, cY, rY⟩ := kw_kern w (g.2 (i + 1)) (g.2 (i + 2)) (g.2 (i + 3)) (g.2 (i + 4)) (g.2 (i + 5))
  have hin : vp_in (0 : Int32) 1 := nI_in (c := 0) (N := 1) (by omega) (by omega)
  refine kq_seg (fun p => Nat.beq p 2873) 160 ?_
  refine And.intro (ks_ld hf hi hL (j := 1) (by decide)) ?_
  refine And.intro (ks_ld hf hi hL (j := 2) (by decide)) ?_
  refine And.intro (ks_ld hf hi hL (j := 3) (by decide)) ?_
  refine And.intro (ks_ld hf hi hL (j := 4) (by decide)) ?_
  refine And.intro (ks_ld hf hi hL (j := 5) (by decide)) ?_
  rw [ks_v hf hi hL (j := 1) (by decide) (show nI i + Int32.ofInt 1 = nI i + nI 1 from rfl), ks_v hf hi hL (j := 2) (by decide) (show nI i + Int32.ofInt 2 = nI i + nI 2 from rfl), ks_v hf hi hL (j := 3) (by decide) (show nI i + Int32.ofInt 3 = nI i + nI 3 from rfl), ks_v hf hi hL (j := 4) (by decide) (show nI i + Int32.ofInt 4 = nI i + nI 4 from rfl), ks_v hf hi hL (j := 5) (by decide) (show nI i + Int32.ofInt 5 = nI i + nI 5 from rfl)]
  refine kq_cnR (cY g h _ hf hb hC (fun h1 f1 c1 fc j1 => ⟨_, rfl, f1, ?_⟩))
  have hM1 : kmA A h1 := hM.fc fc
  refine And.intro (ks_ld f1 hi hL (j := 1) (by decide)) ?_
  refine And.intro (ks_ld f1 hi hL (j := 2) (by decide)) ?_
  refine And.intro (ks_ld f1 hi hL (j := 3) (by decide)) ?_
  refine And.intro (ks_ld f1 hi hL (j := 4) (by decide)) ?_
  refine And.intro (ks_ld f1 hi hL (j := 5) (by decide)) ?_
  rw [ks_v f1 hi hL (j := 1) (by decide) (show nI i + Int32.ofInt 1 = nI i + nI 1 from rfl), ks_v f1 hi hL (j := 2) (by decide) (show nI i + Int32.ofInt 2 = nI i + nI 2 from rfl), ks_v f1 hi hL (j := 3) (by decide) (show nI i + Int32.ofInt 3 = nI i + nI 3 from rfl), ks_v f1 hi hL (j := 4) (by decide) (show nI i + Int32.ofInt 4 = nI i + nI 4 from rfl), ks_v f1 hi hL (j := 5) (by decide) (show nI i + Int32.ofInt 5 = nI i + nI 5 from rfl)]
  refine rY g h1 _ f1 hM1 (fun h2 x f2 m2 fm t0 hv => ⟨f2, ?_⟩)
  refine kq_ci (kc_thrown f2) f2 ?_
  rw [t0]
  have fin : ∀ z5 z6, kq_ex g 201 0 R 2873 [.ref 1000092, .ref 1, .ref 72, .ref 102, .int (nI i), z5, z6] [] h2 := fun z5 z6 => nx A' h2 z5 z6 w1 f2 (c1.fm f1.1 fm) m2 (by rw [fm.1]; exact fc.1) (by rw [fm.2.1]; exact fc.2.1)
  refine ⟨fun _ => ⟨fun _ => fin _ _, fun z => ⟨hin, ?_⟩⟩, fun z => absurd rfl z⟩
  have z0 : co = 0 := (nI_eq (b := 0) (by omega) (by omega)).mp z
  rw [show ka_J h2 102 (Int32.ofInt 0).toNatClampNeg = v.toInt64 from (congrFun (fm.2.2.2.2.1 102) 0).trans (j1 z0), hv z0]
  exact ⟨fun _ => fin _ _, fun y => absurd (ks_cmp _) y⟩
theorem kl_wanted (I : kLI g h A i) (nx : kLN g R h i) (z5 z6 : Value) : kq_ex g 201 0 R 2261 [.ref 1000092, .ref 1, .ref 72, .ref 102, .int (nI i), z5, z6] [] h := by
  obtain ⟨hf, hi, hL, hb, w, hC, hM⟩ := I
  obtain ⟨A', co, v, w1, hco, cY, rY⟩ := kw_wanted w (g.2 (i + 1)) (g.2 (i + 2)) (g.2 (i + 3)) (g.2 (i + 4)) (g.2 (i + 5)) (g.2 (i + 6))
  have hin : vp_in (0 : Int32) 1 := nI_in (c := 0) (N := 1) (by omega) (by omega)
  refine kq_seg (fun p => Nat.beq p 2873) 160 ?_
  refine And.intro (ks_ld hf hi hL (j := 1) (by decide)) ?_
  refine And.intro (ks_ld hf hi hL (j := 2) (by decide)) ?_
  refine And.intro (ks_ld hf hi hL (j := 3) (by decide)) ?_
  refine And.intro (ks_ld hf hi hL (j := 4) (by decide)) ?_
  refine And.intro (ks_ld hf hi hL (j := 5) (by decide)) ?_
  refine And.intro (ks_ld hf hi hL (j := 6) (by decide)) ?_
  rw [ks_v hf hi hL (j := 1) (by decide) (show nI i + Int32.ofInt 1 = nI i + nI 1 from rfl), ks_v hf hi hL (j := 2) (by decide) (show nI i + Int32.ofInt 2 = nI i + nI 2 from rfl), ks_v hf hi hL (j := 3) (by decide) (show nI i + Int32.ofInt 3 = nI i + nI 3 from rfl), ks_v hf hi hL (j := 4) (by decide) (show nI i + Int32.ofInt 4 = nI i + nI 4 from rfl), ks_v hf hi hL (j := 5) (by decide) (show nI i + Int32.ofInt 5 = nI i + nI 5 from rfl), ks_v hf hi hL (j := 6) (by decide) (show nI i + Int32.ofInt 6 = nI i + nI 6 from rfl)]
  refine kq_cnR (cY g h _ hf hb hC (fun h1 f1 c1 fc j1 => ⟨_, rfl, f1, ?_⟩))
  have hM1 : kmA A h1 := hM.fc fc
  refine And.intro (ks_ld f1 hi hL (j := 1) (by decide)) ?_
  refine And.intro (ks_ld f1 hi hL (j := 2) (by decide)) ?_
  refine And.intro (ks_ld f1 hi hL (j := 3) (by decide)) ?_
  refine And.intro (ks_ld f1 hi hL (j := 4) (by decide)) ?_
  refine And.intro (ks_ld f1 hi hL (j := 5) (by decide)) ?_
  refine And.intro (ks_ld f1 hi hL (j := 6) (by decide)) ?_
  rw [ks_v f1 hi hL (j := 1) (by decide) (show nI i + Int32.ofInt 1 = nI i + nI 1 from rfl), ks_v f1 hi hL (j := 2) (by decide) (show nI i + Int32.ofInt 2 = nI i + nI 2 from rfl), ks_v f1 hi hL (j := 3) (by decide) (show nI i + Int32.ofInt 3 = nI i + nI 3 from rfl), ks_v f1 hi hL (j := 4) (by decide) (show nI i + Int32.ofInt 4 = nI i + nI 4 from rfl), ks_v f1 hi hL (j := 5) (by decide) (show nI i + Int32.ofInt 5 = nI i + nI 5 from rfl), ks_v f1 hi hL (j := 6) (by decide) (show nI i + Int32.ofInt 6 = nI i + nI 6 from rfl)]
  refine rY g h1 _ f1 hM1 (fun h2 x f2 m2 fm t0 hv => ⟨f2, ?_⟩)
  refine kq_ci (kc_thrown f2) f2 ?_
  rw [t0]
  have fin : ∀ z5 z6, kq_ex g 201 0 R 2873 [.ref 1000092, .ref 1, .ref 72, .ref 102, .int (nI i), z5, z6] [] h2 := fun z5 z6 => nx A' h2 z5 z6 w1 f2 (c1.fm f1.1 fm) m2 (by rw [fm.1]; exact fc.1) (by rw [fm.2.1]; exact fc.2.1)
  refine ⟨fun _ => ⟨fun _ => fin _ _, fun z => ⟨hin, ?_⟩⟩, fun z => absurd rfl z⟩
  have z0 : co = 0 := (nI_eq (b := 0) (by omega) (by omega)).mp z
  rw [show ka_J h2 102 (Int32.ofInt 0).toNatClampNeg = v.toInt64 from (congrFun (fm.2.2.2.2.1 102) 0).trans (j1 z0), hv z0]
  exact ⟨fun _ => fin _ _, fun y => absurd (ks_cmp _) y⟩
theorem kl_when (I : kLI g h A i) (nx : kLN g R h i) (z5 z6 : Value) : kq_ex g 201 0 R 2379 [.ref 1000092, .ref 1, .ref 72, .ref 102, .int (nI i), z5, z6] [] h := by
  obtain ⟨hf, hi, hL, hb, w, hC, hM⟩ := I
  obtain ⟨A', co, v, w1, hco, cY, rY⟩ := kw_when w (g.2 (i + 1)) (g.2 (i + 2)) (g.2 (i + 3)) (g.2 (i + 4))
  have hin : vp_in (0 : Int32) 1 := nI_in (c := 0) (N := 1) (by omega) (by omega)
  refine kq_seg (fun p => Nat.beq p 2873) 160 ?_
  refine And.intro (ks_ld hf hi hL (j := 1) (by decide)) ?_
  refine And.intro (ks_ld hf hi hL (j := 2) (by decide)) ?_
  refine And.intro (ks_ld hf hi hL (j := 3) (by decide)) ?_
  refine And.intro (ks_ld hf hi hL (j := 4) (by decide)) ?_
  rw [ks_v hf hi hL (j := 1) (by decide) (show nI i + Int32.ofInt 1 = nI i + nI 1 from rfl), ks_v hf hi hL (j := 2) (by decide) (show nI i + Int32.ofInt 2 = nI i + nI 2 from rfl), ks_v hf hi hL (j := 3) (by decide) (show nI i + Int32.ofInt 3 = nI i + nI 3 from rfl), ks_v hf hi hL (j := 4) (by decide) (show nI i + Int32.ofInt 4 = nI i + nI 4 from rfl)]
  refine kq_cnR (cY g h _ hf hb hC (fun h1 f1 c1 fc j1 => ⟨_, rfl, f1, ?_⟩))
  have hM1 : kmA A h1 := hM.fc fc
  refine And.intro (ks_ld f1 hi hL (j := 1) (by decide)) ?_
  refine And.intro (ks_ld f1 hi hL (j := 2) (by decide)) ?_
  refine And.intro (ks_ld f1 hi hL (j := 3) (by decide)) ?_
  refine And.intro (ks_ld f1 hi hL (j := 4) (by decide)) ?_
  rw [ks_v f1 hi hL (j := 1) (by decide) (show nI i + Int32.ofInt 1 = nI i + nI 1 from rfl), ks_v f1 hi hL (j := 2) (by decide) (show nI i + Int32.ofInt 2 = nI i + nI 2 from rfl), ks_v f1 hi hL (j := 3) (by decide) (show nI i + Int32.ofInt 3 = nI i + nI 3 from rfl), ks_v f1 hi hL (j := 4) (by decide) (show nI i + Int32.ofInt 4 = nI i + nI 4 from rfl)]
  refine rY g h1 _ f1 hM1 (fun h2 x f2 m2 fm t0 hv => ⟨f2, ?_⟩)
  refine kq_ci (kc_thrown f2) f2 ?_
  rw [t0]
  have fin : ∀ z5 z6, kq_ex g 201 0 R 2873 [.ref 1000092, .ref 1, .ref 72, .ref 102, .int (nI i), z5, z6] [] h2 := fun z5 z6 => nx A' h2 z5 z6 w1 f2 (c1.fm f1.1 fm) m2 (by rw [fm.1]; exact fc.1) (by rw [fm.2.1]; exact fc.2.1)
  refine ⟨fun _ => ⟨fun _ => fin _ _, fun z => ⟨hin, ?_⟩⟩, fun z => absurd rfl z⟩
  have z0 : co = 0 := (nI_eq (b := 0) (by omega) (by omega)).mp z
  rw [show ka_J h2 102 (Int32.ofInt 0).toNatClampNeg = v.toInt64 from (congrFun (fm.2.2.2.2.1 102) 0).trans (j1 z0), hv z0]
  exact ⟨fun _ => fin _ _, fun y => absurd (ks_cmp _) y⟩
theorem kl_unlike (I : kLI g h A i) (nx : kLN g R h i) (z5 z6 : Value) : kq_ex g 201 0 R 2471 [.ref 1000092, .ref 1, .ref 72, .ref 102, .int (nI i), z5, z6] [] h := by
  obtain ⟨hf, hi, hL, hb, w, hC, hM⟩ := I
  obtain ⟨A', co, v, w1, hco, cY, rY⟩ := kw_unlike w (g.2 (i + 1)) (g.2 (i + 2)) (g.2 (i + 3))
  have hin : vp_in (0 : Int32) 1 := nI_in (c := 0) (N := 1) (by omega) (by omega)
  refine kq_seg (fun p => Nat.beq p 2873) 160 ?_
  refine And.intro (ks_ld hf hi hL (j := 1) (by decide)) ?_
  refine And.intro (ks_ld hf hi hL (j := 2) (by decide)) ?_
  refine And.intro (ks_ld hf hi hL (j := 3) (by decide)) ?_
  rw [ks_v hf hi hL (j := 1) (by decide) (show nI i + Int32.ofInt 1 = nI i + nI 1 from rfl), ks_v hf hi hL (j := 2) (by decide) (show nI i + Int32.ofInt 2 = nI i + nI 2 from rfl), ks_v hf hi hL (j := 3) (by decide) (show nI i + Int32.ofInt 3 = nI i + nI 3 from rfl)]
  refine kq_cnR (cY g h _ hf hb hC (fun h1 f1 c1 fc j1 => ⟨_, rfl, f1, ?_⟩))
  have hM1 : kmA A h1 := hM.fc fc
  refine And.intro (ks_ld f1 hi hL (j := 1) (by decide)) ?_
  refine And.intro (ks_ld f1 hi hL (j := 2) (by decide)) ?_
  refine And.intro (ks_ld f1 hi hL (j := 3) (by decide)) ?_
  rw [ks_v f1 hi hL (j := 1) (by decide) (show nI i + Int32.ofInt 1 = nI i + nI 1 from rfl), ks_v f1 hi hL (j := 2) (by decide) (show nI i + Int32.ofInt 2 = nI i + nI 2 from rfl), ks_v f1 hi hL (j := 3) (by decide) (show nI i + Int32.ofInt 3 = nI i + nI 3 from rfl)]
  refine rY g h1 _ f1 hM1 (fun h2 x f2 m2 fm t0 hv => ⟨f2, ?_⟩)
  refine kq_ci (kc_thrown f2) f2 ?_
  rw [t0]
  have fin : ∀ z5 z6, kq_ex g 201 0 R 2873 [.ref 1000092, .ref 1, .ref 72, .ref 102, .int (nI i), z5, z6] [] h2 := fun z5 z6 => nx A' h2 z5 z6 w1 f2 (c1.fm f1.1 fm) m2 (by rw [fm.1]; exact fc.1) (by rw [fm.2.1]; exact fc.2.1)
  refine ⟨fun _ => ⟨fun _ => fin _ _, fun z => ⟨hin, ?_⟩⟩, fun z => absurd rfl z⟩
  have z0 : co = 0 := (nI_eq (b := 0) (by omega) (by omega)).mp z
  rw [show ka_J h2 102 (Int32.ofInt 0).toNatClampNeg = v.toInt64 from (congrFun (fm.2.2.2.2.1 102) 0).trans (j1 z0), hv z0]
  exact ⟨fun _ => fin _ _, fun y => absurd (ks_cmp _) y⟩
theorem kl_digest (I : kLI g h A i) (nx : kLN g R h i) (z5 z6 : Value) : kq_ex g 201 0 R 2551 [.ref 1000092, .ref 1, .ref 72, .ref 102, .int (nI i), z5, z6] [] h := by
  obtain ⟨hf, hi, hL, hb, w, hC, hM⟩ := I
  obtain ⟨A', co, v, w1, hco, cY, rY⟩ := kw_digest w (g.2 (i + 1)) (g.2 (i + 2)) (g.2 (i + 3))
  have hin : vp_in (0 : Int32) 1 := nI_in (c := 0) (N := 1) (by omega) (by omega)
  refine kq_seg (fun p => Nat.beq p 2873) 160 ?_
  refine And.intro (ks_ld hf hi hL (j := 1) (by decide)) ?_
  refine And.intro (ks_ld hf hi hL (j := 2) (by decide)) ?_
  refine And.intro (ks_ld hf hi hL (j := 3) (by decide)) ?_
  rw [ks_v hf hi hL (j := 1) (by decide) (show nI i + Int32.ofInt 1 = nI i + nI 1 from rfl), ks_v hf hi hL (j := 2) (by decide) (show nI i + Int32.ofInt 2 = nI i + nI 2 from rfl), ks_v hf hi hL (j := 3) (by decide) (show nI i + Int32.ofInt 3 = nI i + nI 3 from rfl)]
  refine kq_cnR (cY g h _ hf hb hC (fun h1 f1 c1 fc j1 => ⟨_, rfl, f1, ?_⟩))
  have hM1 : kmA A h1 := hM.fc fc
  refine And.intro (ks_ld f1 hi hL (j := 1) (by decide)) ?_
  refine And.intro (ks_ld f1 hi hL (j := 2) (by decide)) ?_
  refine And.intro (ks_ld f1 hi hL (j := 3) (by decide)) ?_
  rw [ks_v f1 hi hL (j := 1) (by decide) (show nI i + Int32.ofInt 1 = nI i + nI 1 from rfl), ks_v f1 hi hL (j := 2) (by decide) (show nI i + Int32.ofInt 2 = nI i + nI 2 from rfl), ks_v f1 hi hL (j := 3) (by decide) (show nI i + Int32.ofInt 3 = nI i + nI 3 from rfl)]
  refine rY g h1 _ f1 hM1 (fun h2 x f2 m2 fm t0 hv => ⟨f2, ?_⟩)
  refine kq_ci (kc_thrown f2) f2 ?_
  rw [t0]
  have fin : ∀ z5 z6, kq_ex g 201 0 R 2873 [.ref 1000092, .ref 1, .ref 72, .ref 102, .int (nI i), z5, z6] [] h2 := fun z5 z6 => nx A' h2 z5 z6 w1 f2 (c1.fm f1.1 fm) m2 (by rw [fm.1]; exact fc.1) (by rw [fm.2.1]; exact fc.2.1)
  refine ⟨fun _ => ⟨fun _ => fin _ _, fun z => ⟨hin, ?_⟩⟩, fun z => absurd rfl z⟩
  have z0 : co = 0 := (nI_eq (b := 0) (by omega) (by omega)).mp z
  rw [show ka_J h2 102 (Int32.ofInt 0).toNatClampNeg = v.toInt64 from (congrFun (fm.2.2.2.2.1 102) 0).trans (j1 z0), hv z0]
  exact ⟨fun _ => fin _ _, fun y => absurd (ks_cmp _) y⟩
theorem kl_ready (I : kLI g h A i) (nx : kLN g R h i) (z5 z6 : Value) : kq_ex g 201 0 R 2631 [.ref 1000092, .ref 1, .ref 72, .ref 102, .int (nI i), z5, z6] [] h := by
  obtain ⟨hf, hi, hL, hb, w, hC, hM⟩ := I
  obtain ⟨A', co, v, w1, hco, cY, rY⟩ := kw_ready w (g.2 (i + 1)) (g.2 (i + 2))
  have hin : vp_in (0 : Int32) 1 := nI_in (c := 0) (N := 1) (by omega) (by omega)
  refine kq_seg (fun p => Nat.beq p 2873) 160 ?_
  refine And.intro (ks_ld hf hi hL (j := 1) (by decide)) ?_
  refine And.intro (ks_ld hf hi hL (j := 2) (by decide)) ?_
  rw [ks_v hf hi hL (j := 1) (by decide) (show nI i + Int32.ofInt 1 = nI i + nI 1 from rfl), ks_v hf hi hL (j := 2) (by decide) (show nI i + Int32.ofInt 2 = nI i + nI 2 from rfl)]
  refine kq_cnR (cY g h _ hf hb hC (fun h1 f1 c1 fc j1 => ⟨_, rfl, f1, ?_⟩))
  have hM1 : kmA A h1 := hM.fc fc
  refine And.intro (ks_ld f1 hi hL (j := 1) (by decide)) ?_
  refine And.intro (ks_ld f1 hi hL (j := 2) (by decide)) ?_
  rw [ks_v f1 hi hL (j := 1) (by decide) (show nI i + Int32.ofInt 1 = nI i + nI 1 from rfl), ks_v f1 hi hL (j := 2) (by decide) (show nI i + Int32.ofInt 2 = nI i + nI 2 from rfl)]
  refine rY g h1 _ f1 hM1 (fun h2 x f2 m2 fm t0 hv => ⟨f2, ?_⟩)
  refine kq_ci (kc_thrown f2) f2 ?_
  rw [t0]
  have fin : ∀ z5 z6, kq_ex g 201 0 R 2873 [.ref 1000092, .ref 1, .ref 72, .ref 102, .int (nI i), z5, z6] [] h2 := fun z5 z6 => nx A' h2 z5 z6 w1 f2 (c1.fm f1.1 fm) m2 (by rw [fm.1]; exact fc.1) (by rw [fm.2.1]; exact fc.2.1)
  refine ⟨fun _ => ⟨fun _ => fin _ _, fun z => ⟨hin, ?_⟩⟩, fun z => absurd rfl z⟩
  have z0 : co = 0 := (nI_eq (b := 0) (by omega) (by omega)).mp z
  rw [show ka_J h2 102 (Int32.ofInt 0).toNatClampNeg = v.toInt64 from (congrFun (fm.2.2.2.2.1 102) 0).trans (j1 z0), hv z0]
  exact ⟨fun _ => fin _ _, fun y => absurd (ks_cmp _) y⟩
theorem kl_lacks (I : kLI g h A i) (nx : kLN g R h i) (z5 z6 : Value) : kq_ex g 201 0 R 2699 [.ref 1000092, .ref 1, .ref 72, .ref 102, .int (nI i), z5, z6] [] h := by
  obtain ⟨hf, hi, hL, hb, w, hC, hM⟩ := I
  obtain ⟨A', co, v, w1, hco, cY, rY⟩ := kw_lacks w (g.2 (i + 1)) (g.2 (i + 2))
  have hin : vp_in (0 : Int32) 1 := nI_in (c := 0) (N := 1) (by omega) (by omega)
  refine kq_seg (fun p => Nat.beq p 2873) 160 ?_
  refine And.intro (ks_ld hf hi hL (j := 1) (by decide)) ?_
  refine And.intro (ks_ld hf hi hL (j := 2) (by decide)) ?_
  rw [ks_v hf hi hL (j := 1) (by decide) (show nI i + Int32.ofInt 1 = nI i + nI 1 from rfl), ks_v hf hi hL (j := 2) (by decide) (show nI i + Int32.ofInt 2 = nI i + nI 2 from rfl)]
  refine kq_cnR (cY g h _ hf hb hC (fun h1 f1 c1 fc j1 => ⟨_, rfl, f1, ?_⟩))
  have hM1 : kmA A h1 := hM.fc fc
  refine And.intro (ks_ld f1 hi hL (j := 1) (by decide)) ?_
  refine And.intro (ks_ld f1 hi hL (j := 2) (by decide)) ?_
  rw [ks_v f1 hi hL (j := 1) (by decide) (show nI i + Int32.ofInt 1 = nI i + nI 1 from rfl), ks_v f1 hi hL (j := 2) (by decide) (show nI i + Int32.ofInt 2 = nI i + nI 2 from rfl)]
  refine rY g h1 _ f1 hM1 (fun h2 x f2 m2 fm t0 hv => ⟨f2, ?_⟩)
  refine kq_ci (kc_thrown f2) f2 ?_
  rw [t0]
  have fin : ∀ z5 z6, kq_ex g 201 0 R 2873 [.ref 1000092, .ref 1, .ref 72, .ref 102, .int (nI i), z5, z6] [] h2 := fun z5 z6 => nx A' h2 z5 z6 w1 f2 (c1.fm f1.1 fm) m2 (by rw [fm.1]; exact fc.1) (by rw [fm.2.1]; exact fc.2.1)
  refine ⟨fun _ => ⟨fun _ => fin _ _, fun z => ⟨hin, ?_⟩⟩, fun z => absurd rfl z⟩
  have z0 : co = 0 := (nI_eq (b := 0) (by omega) (by omega)).mp z
  rw [show ka_J h2 102 (Int32.ofInt 0).toNatClampNeg = v.toInt64 from (congrFun (fm.2.2.2.2.1 102) 0).trans (j1 z0), hv z0]
  exact ⟨fun _ => fin _ _, fun y => absurd (ks_cmp _) y⟩
theorem kl_told (I : kLI g h A i) (nx : kLN g R h i) (z5 z6 : Value) : kq_ex g 201 0 R 2767 [.ref 1000092, .ref 1, .ref 72, .ref 102, .int (nI i), z5, z6] [] h := by
  obtain ⟨hf, hi, hL, hb, w, hC, hM⟩ := I
  obtain ⟨A', co, v, w1, hco, cY, rY⟩ := kw_told w (g.2 (i + 1)) (g.2 (i + 2))
  have hin : vp_in (0 : Int32) 1 := nI_in (c := 0) (N := 1) (by omega) (by omega)
  refine kq_seg (fun p => Nat.beq p 2873) 160 ?_
  refine And.intro (ks_ld hf hi hL (j := 1) (by decide)) ?_
  refine And.intro (ks_ld hf hi hL (j := 2) (by decide)) ?_
  rw [ks_v hf hi hL (j := 1) (by decide) (show nI i + Int32.ofInt 1 = nI i + nI 1 from rfl), ks_v hf hi hL (j := 2) (by decide) (show nI i + Int32.ofInt 2 = nI i + nI 2 from rfl)]
  refine kq_cnR (cY g h _ hf hb hC (fun h1 f1 c1 fc j1 => ⟨_, rfl, f1, ?_⟩))
  have hM1 : kmA A h1 := hM.fc fc
  refine And.intro (ks_ld f1 hi hL (j := 1) (by decide)) ?_
  refine And.intro (ks_ld f1 hi hL (j := 2) (by decide)) ?_
  rw [ks_v f1 hi hL (j := 1) (by decide) (show nI i + Int32.ofInt 1 = nI i + nI 1 from rfl), ks_v f1 hi hL (j := 2) (by decide) (show nI i + Int32.ofInt 2 = nI i + nI 2 from rfl)]
  refine rY g h1 _ f1 hM1 (fun h2 x f2 m2 fm t0 hv => ⟨f2, ?_⟩)
  refine kq_ci (kc_thrown f2) f2 ?_
  rw [t0]
  have fin : ∀ z5 z6, kq_ex g 201 0 R 2873 [.ref 1000092, .ref 1, .ref 72, .ref 102, .int (nI i), z5, z6] [] h2 := fun z5 z6 => nx A' h2 z5 z6 w1 f2 (c1.fm f1.1 fm) m2 (by rw [fm.1]; exact fc.1) (by rw [fm.2.1]; exact fc.2.1)
  refine ⟨fun _ => ⟨fun _ => fin _ _, fun z => ⟨hin, ?_⟩⟩, fun z => absurd rfl z⟩
  have z0 : co = 0 := (nI_eq (b := 0) (by omega) (by omega)).mp z
  rw [show ka_J h2 102 (Int32.ofInt 0).toNatClampNeg = v.toInt64 from (congrFun (fm.2.2.2.2.1 102) 0).trans (j1 z0), hv z0]
  exact ⟨fun _ => fin _ _, fun y => absurd (ks_cmp _) y⟩
theorem kl_back (I : kLI g h A i) (nx : kLN g R h i) (z5 z6 : Value) : kq_ex g 201 0 R 2835 [.ref 1000092, .ref 1, .ref 72, .ref 102, .int (nI i), z5, z6] [] h := by
  obtain ⟨hf, hi, hL, hb, w, hC, hM⟩ := I
  obtain ⟨A', co, ex, v, w1, h1, h2, h3⟩ := ko_back w 
  have c0 : co = 0 := Classical.byContradiction fun c => (h1 c).2
  refine kq_seg (fun p => Nat.beq p 2873) 160 ?_
  refine kp_T.le (h2 g h _ hf hb hC (fun c => absurd c0 c) (fun _ h1 f1 c1 fc => ⟨f1, ?_⟩)) (by decide)
  have hM1 : kmA A h1 := hM.fc fc
  refine kp_T.le (h3 g h1 _ f1 hM1 (fun h2 x f2 m2 fm t0 hv => ⟨f2, ?_⟩)) (by decide)
  rw [hv c0]
  exact ⟨fun _ => nx A' h2 z5 z6 w1 f2 (c1.fm f1.1 fm) m2 (by rw [fm.1]; exact fc.1) (by rw [fm.2.1]; exact fc.2.1), fun z => absurd rfl z⟩
theorem kl_count (I : kLI g h A i) (nx : kLN g R h i) (z5 z6 : Value) : kq_ex g 201 0 R 2848 [.ref 1000092, .ref 1, .ref 72, .ref 102, .int (nI i), z5, z6] [] h := by
  obtain ⟨hf, hi, hL, hb, w, hC, hM⟩ := I
  obtain ⟨A', co, ex, v, w1, h1, h2, h3⟩ := ko_count w (g.2 (i + 1))
  have c0 : co = 0 := Classical.byContradiction fun c => (h1 c).2
  refine kq_seg (fun p => Nat.beq p 2873) 160 ?_
  refine And.intro (ks_ld hf hi hL (j := 1) (by decide)) ?_
  rw [ks_v hf hi hL (j := 1) (by decide) (show nI i + Int32.ofInt 1 = nI i + nI 1 from rfl)]
  refine kp_T.le (h2 g h _ hf hb hC (fun c => absurd c0 c) (fun _ h1 f1 c1 fc => ⟨f1, ?_⟩)) (by decide)
  have hM1 : kmA A h1 := hM.fc fc
  refine And.intro (ks_ld f1 hi hL (j := 1) (by decide)) ?_
  rw [ks_v f1 hi hL (j := 1) (by decide) (show nI i + Int32.ofInt 1 = nI i + nI 1 from rfl)]
  refine kp_T.le (h3 g h1 _ f1 hM1 (fun h2 x f2 m2 fm t0 hv => ⟨f2, ?_⟩)) (by decide)
  rw [hv c0]
  exact ⟨fun _ => nx A' h2 z5 z6 w1 f2 (c1.fm f1.1 fm) m2 (by rw [fm.1]; exact fc.1) (by rw [fm.2.1]; exact fc.2.1), fun z => absurd rfl z⟩
end LS
