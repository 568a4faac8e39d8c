/-! ===== the law: one call of either side ===== -/
/-- what holds at the head of the law's loop -/
def kLI (g : Nat × (Nat → Int32)) (h : ka_H) (A : kA) (i : Nat) : Prop := kf g h ∧ i + 8 ≤ g.1 ∧ g.1 ≤ 4096 ∧ h.1 + 64 ≤ 1000000 ∧ kWA A ∧ kcA A h ∧ kmA A h
/-- how the law goes on -/
def kLN (g : Nat × (Nat → Int32)) (R : ka_R → ka_H → Prop) (h : ka_H) (i : Nat) : Prop := ∀ (A' : kA) (h' : ka_H) (z5 z6 : Value), kWA A' → kf g h' → kcA A' h' → kmA A' h' → h'.1 ≤ h.1 + 64 → h'.2.1 ≤ h.2.1 + 9000 → kq_ex g 201 0 R 2873 [.ref 1000092, .ref 1, .ref 72, .ref 102, .int (nI i), z5, z6] [] h'
section LT
variable {g : Nat × (Nat → Int32)} {d : Nat} {h : ka_H} {i : Nat}
theorem ks_sc (hf : kf g h) (k : Nat) : ka_I h 1000092 k = g.2 k := ((hf.2.2.2 92).2 k).1.trans rfl
theorem ks_K (hf : kf g h) : ka_K h 1000092 = (40, g.1) := (hf.2.2.2 92).1.trans rfl
theorem ks_ld (hf : kf g h) (hi : i + 8 ≤ g.1) (hL : g.1 ≤ 4096) {j : Nat} (hj : j < 8) : ((ka_K h 1000092).1 = 30 ∨ (ka_K h 1000092).1 = 40) ∧ vp_in (nI i + nI j) (ka_K h 1000092).2 := by
  rw [ks_K hf, nI_add]
  exact ⟨Or.inr rfl, nI_in (by omega) (by omega)⟩
theorem ks_v (hf : kf g h) (hi : i + 8 ≤ g.1) (hL : g.1 ≤ 4096) {j : Nat} (hj : j < 8) {x : Int32} (e : x = nI i + nI j) : ka_I h 1000092 x.toNatClampNeg = g.2 (i + j) := by
  rw [e, nI_add, nI_clamp (by omega), ks_sc hf]
theorem kc_thrown (hf : kf g h) : kp_T (d + 1) 145 [.ref 72] h (kp_is (.int (ka_I h 72 0)) h) := kq_in hf rfl rfl rfl (kq_seg kp_no 6 ⟨trivial, rfl, rfl⟩)
theorem ks_cmp (a : Int64) : lg_cmp a a = 0 := by
  unfold lg_cmp
  simp
end LT
section LS
variable {g : Nat × (Nat → Int32)} {h : ka_H} {R : ka_R → ka_H → Prop} {A : kA} {i : Nat}
theorem kl_change (I : kLI g h A i) (nx : kLN g R h i) (z5 z6 : Value) : kq_ex g 201 0 R 204 [.ref 1000092, .ref 1, .ref 72, .ref 102, .int (nI i), z5, z6] [] h := by
  obtain ⟨hf, hi, hL, hb, w, hC, hM⟩ := I
  obtain ⟨A', co, v, w1, hco, cY, rY⟩ := kw_change w (g.2 (i + 1)) (g.2 (i + 2)) (g.2 (i + 3)) (g.2 (i + 4))
  have hin : vp_in (0 : Int32) 1 := nI_in (c := 0) (N := 1) (by omega) (by omega)
  refine kq_seg (fun p => Nat.beq p 2873) 160 ?_
  refine And.intro (ks_ld hf hi hL (j := 1) (by decide)) ?_
  refine And.intro (ks_ld hf hi hL (j := 2) (by decide)) ?_
  refine And.intro (ks_ld hf hi hL (j := 3) (by decide)) ?_
  refine And.intro (ks_ld hf hi hL (j := 4) (by decide)) ?_
  rw [ks_v hf hi hL (j := 1) (by decide) (show nI i + Int32.ofInt 1 = nI i + nI 1 from rfl), ks_v hf hi hL (j := 2) (by decide) (show nI i + Int32.ofInt 2 = nI i + nI 2 from rfl), ks_v hf hi hL (j := 3) (by decide) (show nI i + Int32.ofInt 3 = nI i + nI 3 from rfl), ks_v hf hi hL (j := 4) (by decide) (show nI i + Int32.ofInt 4 = nI i + nI 4 from rfl)]
  refine kq_cnR (cY g h _ hf hb hC (fun h1 f1 c1 fc j1 => ⟨_, rfl, f1, ?_⟩))
  have hM1 : kmA A h1 := hM.fc fc
  refine And.intro (ks_ld f1 hi hL (j := 1) (by decide)) ?_
  refine And.intro (ks_ld f1 hi hL (j := 2) (by decide)) ?_
  refine And.intro (ks_ld f1 hi hL (j := 3) (by decide)) ?_
  refine And.intro (ks_ld f1 hi hL (j := 4) (by decide)) ?_
  rw [ks_v f1 hi hL (j := 1) (by decide) (show nI i + Int32.ofInt 1 = nI i + nI 1 from rfl), ks_v f1 hi hL (j := 2) (by decide) (show nI i + Int32.ofInt 2 = nI i + nI 2 from rfl), ks_v f1 hi hL (j := 3) (by decide) (show nI i + Int32.ofInt 3 = nI i + nI 3 from rfl), ks_v f1 hi hL (j := 4) (by decide) (show nI i + Int32.ofInt 4 = nI i + nI 4 from rfl)]
  refine rY g h1 _ f1 hM1 (fun h2 x f2 m2 fm t0 hv => ⟨f2, ?_⟩)
  refine kq_ci (kc_thrown f2) f2 ?_
  rw [t0]
  have fin : ∀ z5 z6, kq_ex g 201 0 R 2873 [.ref 1000092, .ref 1, .ref 72, .ref 102, .int (nI i), z5, z6] [] h2 := fun z5 z6 => nx A' h2 z5 z6 w1 f2 (c1.fm f1.1 fm) m2 (by rw [fm.1]; exact fc.1) (by rw [fm.2.1]; exact fc.2.1)
  refine ⟨fun _ => ⟨fun _ => fin _ _, fun z => ⟨hin, ?_⟩⟩, fun z => absurd rfl z⟩
  have z0 : co = 0 := (nI_eq (b := 0) (by omega) (by omega)).mp z
  rw [show ka_J h2 102 (Int32.ofInt 0).toNatClampNeg = v.toInt64 from (congrFun (fm.2.2.2.2.1 102) 0).trans (j1 z0), hv z0]
  exact ⟨fun _ => fin _ _, fun y => absurd (ks_cmp _) y⟩
theorem kl_late (I : kLI g h A i) (nx : kLN g R h i) (z5 z6 : Value) : kq_ex g 201 0 R 296 [.ref 1000092, .ref 1, .ref 72, .ref 102, .int (nI i), z5, z6] [] h := by
  obtain ⟨hf, hi, hL, hb, w, hC, hM⟩ := I
  obtain ⟨A', co, v, w1, hco, cY, rY⟩ := kw_late w (g.2 (i + 1)) (g.2 (i + 2)) (g.2 (i + 3)) (g.2 (i + 4)) (g.2 (i + 5))
  have hin : vp_in (0 : Int32) 1 := nI_in (c := 0) (N := 1) (by omega) (by omega)
  refine kq_seg (fun p => Nat.beq p 2873) 160 ?_
  refine And.intro (ks_ld hf hi hL (j := 1) (by decide)) ?_
  refine And.intro (ks_ld hf hi hL (j := 2) (by decide)) ?_
  refine And.intro (ks_ld hf hi hL (j := 3) (by decide)) ?_
  refine And.intro (ks_ld hf hi hL (j := 4) (by decide)) ?_
  refine And.intro (ks_ld hf hi hL (j := 5) (by decide)) ?_
  rw [ks_v hf hi hL (j := 1) (by decide) (show nI i + Int32.ofInt 1 = nI i + nI 1 from rfl), ks_v hf hi hL (j := 2) (by decide) (show nI i + Int32.ofInt 2 = nI i + nI 2 from rfl), ks_v hf hi hL (j := 3) (by decide) (show nI i + Int32.ofInt 3 = nI i + nI 3 from rfl), ks_v hf hi hL (j := 4) (by decide) (show nI i + Int32.ofInt 4 = nI i + nI 4 from rfl), ks_v hf hi hL (j := 5) (by decide) (show nI i + Int32.ofInt 5 = nI i + nI 5 from rfl)]
  refine kq_cnR (cY g h _ hf hb hC (fun h1 f1 c1 fc j1 => ⟨_, rfl, f1, ?_⟩))
  have hM1 : kmA A h1 := hM.fc fc
  refine And.intro (ks_ld f1 hi hL (j := 1) (by decide)) ?_
  refine And.intro (ks_ld f1 hi hL (j := 2) (by decide)) ?_
  refine And.intro (ks_ld f1 hi hL (j := 3) (by decide)) ?_
  refine And.intro (ks_ld f1 hi hL (j := 4) (by decide)) ?_
  refine And.intro (ks_ld f1 hi hL (j := 5) (by decide)) ?_
  rw [ks_v f1 hi hL (j := 1) (by decide) (show nI i + Int32.ofInt 1 = nI i + nI 1 from rfl), ks_v f1 hi hL (j := 2) (by decide) (show nI i + Int32.ofInt 2 = nI i + nI 2 from rfl), ks_v f1 hi hL (j := 3) (by decide) (show nI i + Int32.ofInt 3 = nI i + nI 3 from rfl), ks_v f1 hi hL (j := 4) (by decide) (show nI i + Int32.ofInt 4 = nI i + nI 4 from rfl), ks_v f1 hi hL (j := 5) (by decide) (show nI i + Int32.ofInt 5 = nI i + nI 5 from rfl)]
  refine rY g h1 _ f1 hM1 (fun h2 x f2 m2 fm t0 hv => ⟨f2, ?_⟩)
  refine kq_ci (kc_thrown f2) f2 ?_
  rw [t0]
  have fin : ∀ z5 z6, kq_ex g 201 0 R 2873 [.ref 1000092, .ref 1, .ref 72, .ref 102, .int (nI i), z5, z6] [] h2 := fun z5 z6 => nx A' h2 z5 z6 w1 f2 (c1.fm f1.1 fm) m2 (by rw [fm.1]; exact fc.1) (by rw [fm.2.1]; exact fc.2.1)
  refine ⟨fun _ => ⟨fun _ => fin _ _, fun z => ⟨hin, ?_⟩⟩, fun z => absurd rfl z⟩
  have z0 : co = 0 := (nI_eq (b := 0) (by omega) (by omega)).mp z
  rw [show ka_J h2 102 (Int32.ofInt 0).toNatClampNeg = v.toInt64 from (congrFun (fm.2.2.2.2.1 102) 0).trans (j1 z0), hv z0]
  exact ⟨fun _ => fin _ _, fun y => absurd (ks_cmp _) y⟩
theorem kl_room (I : kLI g h A i) (nx : kLN g R h i) (z5 z6 : Value) : kq_ex g 201 0 R 400 [.ref 1000092, .ref 1, .ref 72, .ref 102, .int (nI i), z5, z6] [] h := by
  obtain ⟨hf, hi, hL, hb, w, hC, hM⟩ := I
  obtain ⟨A', co, v, w1, hco, cY, rY⟩ := kw_room w (g.2 (i + 1))
  have hin : vp_in (0 : Int32) 1 := nI_in (c := 0) (N := 1) (by omega) (by omega)
  refine kq_seg (fun p => Nat.beq p 2873) 160 ?_
  refine And.intro (ks_ld hf hi hL (j := 1) (by decide)) ?_
  rw [ks_v hf hi hL (j := 1) (by decide) (show nI i + Int32.ofInt 1 = nI i + nI 1 from rfl)]
  refine kq_cnR (cY g h _ hf hb hC (fun h1 f1 c1 fc j1 => ⟨_, rfl, f1, ?_⟩))
  have hM1 : kmA A h1 := hM.fc fc
  refine And.intro (ks_ld f1 hi hL (j := 1) (by decide)) ?_
  rw [ks_v f1 hi hL (j := 1) (by decide) (show nI i + Int32.ofInt 1 = nI i + nI 1 from rfl)]
  refine rY g h1 _ f1 hM1 (fun h2 x f2 m2 fm t0 hv => ⟨f2, ?_⟩)
  refine kq_ci (kc_thrown f2) f2 ?_
  rw [t0]
  have fin : ∀ z5 z6, kq_ex g 201 0 R 2873 [.ref 1000092, .ref 1, .ref 72, .ref 102, .int (nI i), z5, z6] [] h2 := fun z5 z6 => nx A' h2 z5 z6 w1 f2 (c1.fm f1.1 fm) m2 (by rw [fm.1]; exact fc.1) (by rw [fm.2.1]; exact fc.2.1)
  refine ⟨fun _ => ⟨fun _ => fin _ _, fun z => ⟨hin, ?_⟩⟩, fun z => absurd rfl z⟩
  have z0 : co = 0 := (nI_eq (b := 0) (by omega) (by omega)).mp z
  rw [show ka_J h2 102 (Int32.ofInt 0).toNatClampNeg = v.toInt64 from (congrFun (fm.2.2.2.2.1 102) 0).trans (j1 z0), hv z0]
  exact ⟨fun _ => fin _ _, fun y => absurd (ks_cmp _) y⟩
theorem kl_drop (I : kLI g h A i) (nx : kLN g R h i) (z5 z6 : Value) : kq_ex g 201 0 R 456 [.ref 1000092, .ref 1, .ref 72, .ref 102, .int (nI i), z5, z6] [] h := by
  obtain ⟨hf, hi, hL, hb, w, hC, hM⟩ := I
  obtain ⟨A', co, ex, v, w1, h1, h2, h3⟩ := ko_drop w 
  have c0 : co = 0 := Classical.byContradiction fun c => (h1 c).2
  refine kq_seg (fun p => Nat.beq p 2873) 160 ?_
  refine kp_T.le (h2 g h _ hf hb hC (fun c => absurd c0 c) (fun _ h1 f1 c1 fc => ⟨f1, ?_⟩)) (by decide)
  have hM1 : kmA A h1 := hM.fc fc
  refine kp_T.le (h3 g h1 _ f1 hM1 (fun h2 x f2 m2 fm t0 hv => ⟨f2, ?_⟩)) (by decide)
  rw [hv c0]
  exact ⟨fun _ => nx A' h2 z5 z6 w1 f2 (c1.fm f1.1 fm) m2 (by rw [fm.1]; exact fc.1) (by rw [fm.2.1]; exact fc.2.1), fun z => absurd rfl z⟩
theorem kl_close (I : kLI g h A i) (nx : kLN g R h i) (z5 z6 : Value) : kq_ex g 201 0 R 469 [.ref 1000092, .ref 1, .ref 72, .ref 102, .int (nI i), z5, z6] [] h := by
  obtain ⟨hf, hi, hL, hb, w, hC, hM⟩ := I
  obtain ⟨A', co, v, w1, hco, cY, rY⟩ := kw_close w 
  have hin : vp_in (0 : Int32) 1 := nI_in (c := 0) (N := 1) (by omega) (by omega)
  refine kq_seg (fun p => Nat.beq p 2873) 160 ?_
  refine kq_cnR (cY g h _ hf hb hC (fun h1 f1 c1 fc j1 => ⟨_, rfl, f1, ?_⟩))
  have hM1 : kmA A h1 := hM.fc fc
  refine rY g h1 _ f1 hM1 (fun h2 x f2 m2 fm t0 hv => ⟨f2, ?_⟩)
  refine kq_ci (kc_thrown f2) f2 ?_
  rw [t0]
  have fin : ∀ z5 z6, kq_ex g 201 0 R 2873 [.ref 1000092, .ref 1, .ref 72, .ref 102, .int (nI i), z5, z6] [] h2 := fun z5 z6 => nx A' h2 z5 z6 w1 f2 (c1.fm f1.1 fm) m2 (by rw [fm.1]; exact fc.1) (by rw [fm.2.1]; exact fc.2.1)
  refine ⟨fun _ => ⟨fun _ => fin _ _, fun z => ⟨hin, ?_⟩⟩, fun z => absurd rfl z⟩
  have z0 : co = 0 := (nI_eq (b := 0) (by omega) (by omega)).mp z
  rw [show ka_J h2 102 (Int32.ofInt 0).toNatClampNeg = v.toInt64 from (congrFun (fm.2.2.2.2.1 102) 0).trans (j1 z0), hv z0]
  exact ⟨fun _ => fin _ _, fun y => absurd (ks_cmp _) y⟩
theorem kl_rows (I : kLI g h A i) (nx : kLN g R h i) (z5 z6 : Value) : kq_ex g 201 0 R 513 [.ref 1000092, .ref 1, .ref 72, .ref 102, .int (nI i), z5, z6] [] h := by
  obtain ⟨hf, hi, hL, hb, w, hC, hM⟩ := I
  obtain ⟨A', co, v, w1, hco, cY, rY⟩ := kw_rows w (g.2 (i + 1)) (g.2 (i + 2)) (g.2 (i + 3)) (g.2 (i + 4))
  have hin : vp_in (0 : Int32) 1 := nI_in (c := 0) (N := 1) (by omega) (by omega)
  refine kq_seg (fun p => Nat.beq p 2873) 160 ?_
  refine And.intro (ks_ld hf hi hL (j := 1) (by decide)) ?_
  refine And.intro (ks_ld hf hi hL (j := 2) (by decide)) ?_
  refine And.intro (ks_ld hf hi hL (j := 3) (by decide)) ?_
  refine And.intro (ks_ld hf hi hL (j := 4) (by decide)) ?_
  rw [ks_v hf hi hL (j := 1) (by decide) (show nI i + Int32.ofInt 1 = nI i + nI 1 from rfl), ks_v hf hi hL (j := 2) (by decide) (show nI i + Int32.ofInt 2 = nI i + nI 2 from rfl), ks_v hf hi hL (j := 3) (by decide) (show nI i + Int32.ofInt 3 = nI i + nI 3 from rfl), ks_v hf hi hL (j := 4) (by decide) (show nI i + Int32.ofInt 4 = nI i + nI 4 from rfl)]
  refine kq_cnR (cY g h _ hf hb hC (fun h1 f1 c1 fc j1 => ⟨_, rfl, f1, ?_⟩))
  have hM1 : kmA A h1 := hM.fc fc
  refine And.intro (ks_ld f1 hi hL (j := 1) (by decide)) ?_
  refine And.intro (ks_ld f1 hi hL (j := 2) (by decide)) ?_
  refine And.intro (ks_ld f1 hi hL (j := 3) (by decide)) ?_
  refine And.intro (ks_ld f1 hi hL (j := 4) (by decide)) ?_
  rw [ks_v f1 hi hL (j := 1) (by decide) (show nI i + Int32.ofInt 1 = nI i + nI 1 from rfl), ks_v f1 hi hL (j := 2) (by decide) (show nI i + Int32.ofInt 2 = nI i + nI 2 from rfl), ks_v f1 hi hL (j := 3) (by decide) (show nI i + Int32.ofInt 3 = nI i + nI 3 from rfl), ks_v f1 hi hL (j := 4) (by decide) (show nI i + Int32.ofInt 4 = nI i + nI 4 from rfl)]
  refine rY g h1 _ f1 hM1 (fun h2 x f2 m2 fm t0 hv => ⟨f2, ?_⟩)
  refine kq_ci (kc_thrown f2) f2 ?_
  rw [t0]
  have fin : ∀ z5 z6, kq_ex g 201 0 R 2873 [.ref 1000092, .ref 1, .ref 72, .ref 102, .int (nI i), z5, z6] [] h2 := fun z5 z6 => nx A' h2 z5 z6 w1 f2 (c1.fm f1.1 fm) m2 (by rw [fm.1]; exact fc.1) (by rw [fm.2.1]; exact fc.2.1)
  refine ⟨fun _ => ⟨fun _ => fin _ _, fun z => ⟨hin, ?_⟩⟩, fun z => absurd rfl z⟩
  have z0 : co = 0 := (nI_eq (b := 0) (by omega) (by omega)).mp z
  rw [show ka_J h2 102 (Int32.ofInt 0).toNatClampNeg = v.toInt64 from (congrFun (fm.2.2.2.2.1 102) 0).trans (j1 z0), hv z0]
  exact ⟨fun _ => fin _ _, fun y => absurd (ks_cmp _) y⟩
theorem kl_feed (I : kLI g h A i) (nx : kLN g R h i) (z5 z6 : Value) : kq_ex g 201 0 R 605 [.ref 1000092, .ref 1, .ref 72, .ref 102, .int (nI i), z5, z6] [] h := by
  obtain ⟨hf, hi, hL, hb, w, hC, hM⟩ := I
  obtain ⟨A', co, ex, v, w1, h1, h2, h3⟩ := ko_feed w (g.2 (i + 1)) (g.2 (i + 2)) (g.2 (i + 3)) (g.2 (i + 4)) (g.2 (i + 5))
  have c0 : co = 0 := Classical.byContradiction fun c => (h1 c).2
  refine kq_seg (fun p => Nat.beq p 2873) 160 ?_
  refine And.intro (ks_ld hf hi hL (j := 1) (by decide)) ?_
  refine And.intro (ks_ld hf hi hL (j := 2) (by decide)) ?_
  refine And.intro (ks_ld hf hi hL (j := 3) (by decide)) ?_
  refine And.intro (ks_ld hf hi hL (j := 4) (by decide)) ?_
  refine And.intro (ks_ld hf hi hL (j := 5) (by decide)) ?_
  rw [ks_v hf hi hL (j := 1) (by decide) (show nI i + Int32.ofInt 1 = nI i + nI 1 from rfl), ks_v hf hi hL (j := 2) (by decide) (show nI i + Int32.ofInt 2 = nI i + nI 2 from rfl), ks_v hf hi hL (j := 3) (by decide) (show nI i + Int32.ofInt 3 = nI i + nI 3 from rfl), ks_v hf hi hL (j := 4) (by decide) (show nI i + Int32.ofInt 4 = nI i + nI 4 from rfl), ks_v hf hi hL (j := 5) (by decide) (show nI i + Int32.ofInt 5 = nI i + nI 5 from rfl)]
  refine kp_T.le (h2 g h _ hf hb hC (fun c => absurd c0 c) (fun _ h1 f1 c1 fc => ⟨f1, ?_⟩)) (by decide)
  have hM1 : kmA A h1 := hM.fc fc
  refine And.intro (ks_ld f1 hi hL (j := 1) (by decide)) ?_
  refine And.intro (ks_ld f1 hi hL (j := 2) (by decide)) ?_
  refine And.intro (ks_ld f1 hi hL (j := 3) (by decide)) ?_
  refine And.intro (ks_ld f1 hi hL (j := 4) (by decide)) ?_
  refine And.intro (ks_ld f1 hi hL (j := 5) (by decide)) ?_
  rw [ks_v f1 hi hL (j := 1) (by decide) (show nI i + Int32.ofInt 1 = nI i + nI 1 from rfl), ks_v f1 hi hL (j := 2) (by decide) (show nI i + Int32.ofInt 2 = nI i + nI 2 from rfl), ks_v f1 hi hL (j := 3) (by decide) (show nI i + Int32.ofInt 3 = nI i + nI 3 from rfl), ks_v f1 hi hL (j := 4) (by decide) (show nI i + Int32.ofInt 4 = nI i + nI 4 from rfl), ks_v f1 hi hL (j := 5) (by decide) (show nI i + Int32.ofInt 5 = nI i + nI 5 from rfl)]
  refine kp_T.le (h3 g h1 _ f1 hM1 (fun h2 x f2 m2 fm t0 hv => ⟨f2, ?_⟩)) (by decide)
  rw [hv c0]
  exact ⟨fun _ => nx A' h2 z5 z6 w1 f2 (c1.fm f1.1 fm) m2 (by rw [fm.1]; exact fc.1) (by rw [fm.2.1]; exact fc.2.1), fun z => absurd rfl z⟩
theorem kl_question (I : kLI g h A i) (nx : kLN g R h i) (z5 z6 : Value) : kq_ex g 201 0 R 678 [.ref 1000092, .ref 1, .ref 72, .ref 102, .int (nI i), z5, z6] [] h := by
  obtain ⟨hf, hi, hL, hb, w, hC, hM⟩ := I
  obtain ⟨A', co, v, w1, hco, cY, rY⟩ := kw_question w (g.2 (i + 1))
  have hin : vp_in (0 : Int32) 1 := nI_in (c := 0) (N := 1) (by omega) (by omega)
  refine kq_seg (fun p => Nat.beq p 2873) 160 ?_
  refine And.intro (ks_ld hf hi hL (j := 1) (by decide)) ?_
  rw [ks_v hf hi hL (j := 1) (by decide) (show nI i + Int32.ofInt 1 = nI i + nI 1 from rfl)]
  refine kq_cnR (cY g h _ hf hb hC (fun h1 f1 c1 fc j1 => ⟨_, rfl, f1, ?_⟩))
  have hM1 : kmA A h1 := hM.fc fc
  refine And.intro (ks_ld f1 hi hL (j := 1) (by decide)) ?_
  rw [ks_v f1 hi hL (j := 1) (by decide) (show nI i + Int32.ofInt 1 = nI i + nI 1 from rfl)]
  refine rY g h1 _ f1 hM1 (fun h2 x f2 m2 fm t0 hv => ⟨f2, ?_⟩)
  refine kq_ci (kc_thrown f2) f2 ?_
  rw [t0]
  have fin : ∀ z5 z6, kq_ex g 201 0 R 2873 [.ref 1000092, .ref 1, .ref 72, .ref 102, .int (nI i), z5, z6] [] h2 := fun z5 z6 => nx A' h2 z5 z6 w1 f2 (c1.fm f1.1 fm) m2 (by rw [fm.1]; exact fc.1) (by rw [fm.2.1]; exact fc.2.1)
  refine ⟨fun _ => ⟨fun _ => fin _ _, fun z => ⟨hin, ?_⟩⟩, fun z => absurd rfl z⟩
  have z0 : co = 0 := (nI_eq (b := 0) (by omega) (by omega)).mp z
  rw [show ka_J h2 102 (Int32.ofInt 0).toNatClampNeg = v.toInt64 from (congrFun (fm.2.2.2.2.1 102) 0).trans (j1 z0), hv z0]
  exact ⟨fun _ => fin _ _, fun y => absurd (ks_cmp _) y⟩
theorem kl_fault (I : kLI g h A i) (nx : kLN g R h i) (z5 z6 : Value) : kq_ex g 201 0 R 734 [.ref 1000092, .ref 1, .ref 72, .ref 102, .int (nI i), z5, z6] [] h := by
  obtain ⟨hf, hi, hL, hb, w, hC, hM⟩ := I
  obtain ⟨A', co, ex, v, w1, h1, h2, h3⟩ := ko_fault w 
  have c0 : co = 0 := Classical.byContradiction fun c => (h1 c).2
  refine kq_seg (fun p => Nat.beq p 2873) 160 ?_
  refine kp_T.le (h2 g h _ hf hb hC (fun c => absurd c0 c) (fun _ h1 f1 c1 fc => ⟨f1, ?_⟩)) (by decide)
  have hM1 : kmA A h1 := hM.fc fc
  refine kp_T.le (h3 g h1 _ f1 hM1 (fun h2 x f2 m2 fm t0 hv => ⟨f2, ?_⟩)) (by decide)
  rw [hv c0]
  exact ⟨fun _ => nx A' h2 z5 z6 w1 f2 (c1.fm f1.1 fm) m2 (by rw [fm.1]; exact fc.1) (by rw [fm.2.1]; exact fc.2.1), fun z => absurd rfl z⟩
theorem kl_leave (I : kLI g h A i) (nx : kLN g R h i) (z5 z6 : Value) : kq_ex g 201 0 R 747 [.ref 1000092, .ref 1, .ref 72, .ref 102, .int (nI i), z5, z6] [] h := by
  obtain ⟨hf, hi, hL, hb, w, hC, hM⟩ := I
  obtain ⟨A', co, v, w1, hco, cY, rY⟩ := kw_leave w (g.2 (i + 1))
  have hin : vp_in (0 : Int32) 1 := nI_in (c := 0) (N := 1) (by omega) (by omega)
  refine kq_seg (fun p => Nat.beq p 2873) 160 ?_
  refine And.intro (ks_ld hf hi hL (j := 1) (by decide)) ?_
  rw [ks_v hf hi hL (j := 1) (by decide) (show nI i + Int32.ofInt 1 = nI i + nI 1 from rfl)]
  refine kq_cnR (cY g h _ hf hb hC (fun h1 f1 c1 fc j1 => ⟨_, rfl, f1, ?_⟩))
  have hM1 : kmA A h1 := hM.fc fc
  refine And.intro (ks_ld f1 hi hL (j := 1) (by decide)) ?_
  rw [ks_v f1 hi hL (j := 1) (by decide) (show nI i + Int32.ofInt 1 = nI i + nI 1 from rfl)]
  refine rY g h1 _ f1 hM1 (fun h2 x f2 m2 fm t0 hv => ⟨f2, ?_⟩)
  refine kq_ci (kc_thrown f2) f2 ?_
  rw [t0]
  have fin : ∀ z5 z6, kq_ex g 201 0 R 2873 [.ref 1000092, .ref 1, .ref 72, .ref 102, .int (nI i), z5, z6] [] h2 := fun z5 z6 => nx A' h2 z5 z6 w1 f2 (c1.fm f1.1 fm) m2 (by rw [fm.1]; exact fc.1) (by rw [fm.2.1]; exact fc.2.1)
  refine ⟨fun _ => ⟨fun _ => fin _ _, fun z => ⟨hin, ?_⟩⟩, fun z => absurd rfl z⟩
  have z0 : co = 0 := (nI_eq (b := 0) (by omega) (by omega)).mp z
  rw [show ka_J h2 102 (Int32.ofInt 0).toNatClampNeg = v.toInt64 from (congrFun (fm.2.2.2.2.1 102) 0).trans (j1 z0), hv z0]
  exact ⟨fun _ => fin _ _, fun y => absurd (ks_cmp _) y⟩
theorem kl_nodes (I : kLI g h A i) (nx : kLN g R h i) (z5 z6 : Value) : kq_ex g 201 0 R 803 [.ref 1000092, .ref 1, .ref 72, .ref 102, .int (nI i), z5, z6] [] h := by
  obtain ⟨hf, hi, hL, hb, w, hC, hM⟩ := I
  obtain ⟨A', co, v, w1, hco, cY, rY⟩ := kw_nodes w (g.2 (i + 1))
  have hin : vp_in (0 : Int32) 1 := nI_in (c := 0) (N := 1) (by omega) (by omega)
  refine kq_seg (fun p => Nat.beq p 2873) 160 ?_
  refine And.intro (ks_ld hf hi hL (j := 1) (by decide)) ?_
  rw [ks_v hf hi hL (j := 1) (by decide) (show nI i + Int32.ofInt 1 = nI i + nI 1 from rfl)]
  refine kq_cnR (cY g h _ hf hb hC (fun h1 f1 c1 fc j1 => ⟨_, rfl, f1, ?_⟩))
  have hM1 : kmA A h1 := hM.fc fc
  refine And.intro (ks_ld f1 hi hL (j := 1) (by decide)) ?_
  rw [ks_v f1 hi hL (j := 1) (by decide) (show nI i + Int32.ofInt 1 = nI i + nI 1 from rfl)]
  refine rY g h1 _ f1 hM1 (fun h2 x f2 m2 fm t0 hv => ⟨f2, ?_⟩)
  refine kq_ci (kc_thrown f2) f2 ?_
  rw [t0]
  have fin : ∀ z5 z6, kq_ex g 201 0 R 2873 [.ref 1000092, .ref 1, .ref 72, .ref 102, .int (nI i), z5, z6] [] h2 := fun z5 z6 => nx A' h2 z5 z6 w1 f2 (c1.fm f1.1 fm) m2 (by rw [fm.1]; exact fc.1) (by rw [fm.2.1]; exact fc.2.1)
  refine ⟨fun _ => ⟨fun _ => fin _ _, fun z => ⟨hin, ?_⟩⟩, fun z => absurd rfl z⟩
  have z0 : co = 0 := (nI_eq (b := 0) (by omega) (by omega)).mp z
  rw [show ka_J h2 102 (Int32.ofInt 0).toNatClampNeg = v.toInt64 from (congrFun (fm.2.2.2.2.1 102) 0).trans (j1 z0), hv z0]
  exact ⟨fun _ => fin _ _, fun y => absurd (ks_cmp _) y⟩
theorem kl_shelf (I : kLI g h A i) (nx : kLN g R h i) (z5 z6 : Value) : kq_ex g 201 0 R 859 [.ref 1000092, .ref 1, .ref 72, .ref 102, .int (nI i), z5, z6] [] h := by
  obtain ⟨hf, hi, hL, hb, w, hC, hM⟩ := I
  obtain ⟨A', co, v, w1, hco, cY, rY⟩ := kw_shelf w (g.2 (i + 1)) (g.2 (i + 2))
  have hin : vp_in (0 : Int32) 1 := nI_in (c := 0) (N := 1) (by omega) (by omega)
  refine kq_seg (fun p => Nat.beq p 2873) 160 ?_
  refine And.intro (ks_ld hf hi hL (j := 1) (by decide)) ?_
  refine And.intro (ks_ld hf hi hL (j := 2) (by decide)) ?_
  rw [ks_v hf hi hL (j := 1) (by decide) (show nI i + Int32.ofInt 1 = nI i + nI 1 from rfl), ks_v hf hi hL (j := 2) (by decide) (show nI i + Int32.ofInt 2 = nI i + nI 2 from rfl)]
  refine kq_cnR (cY g h _ hf hb hC (fun h1 f1 c1 fc j1 => ⟨_, rfl, f1, ?_⟩))
  have hM1 : kmA A h1 := hM.fc fc
  refine And.intro (ks_ld f1 hi hL (j := 1) (by decide)) ?_
  refine And.intro (ks_ld f1 hi hL (j := 2) (by decide)) ?_
  rw [ks_v f1 hi hL (j := 1) (by decide) (show nI i + Int32.ofInt 1 = nI i + nI 1 from rfl), ks_v f1 hi hL (j := 2) (by decide) (show nI i + Int32.ofInt 2 = nI i + nI 2 from rfl)]
  refine rY g h1 _ f1 hM1 (fun h2 x f2 m2 fm t0 hv => ⟨f2, ?_⟩)
  refine kq_ci (kc_thrown f2) f2 ?_
  rw [t0]
  have fin : ∀ z5 z6, kq_ex g 201 0 R 2873 [.ref 1000092, .ref 1, .ref 72, .ref 102, .int (nI i), z5, z6] [] h2 := fun z5 z6 => nx A' h2 z5 z6 w1 f2 (c1.fm f1.1 fm) m2 (by rw [fm.1]; exact fc.1) (by rw [fm.2.1]; exact fc.2.1)
  refine ⟨fun _ => ⟨fun _ => fin _ _, fun z => ⟨hin, ?_⟩⟩, fun z => absurd rfl z⟩
  have z0 : co = 0 := (nI_eq (b := 0) (by omega) (by omega)).mp z
  rw [show ka_J h2 102 (Int32.ofInt 0).toNatClampNeg = v.toInt64 from (congrFun (fm.2.2.2.2.1 102) 0).trans (j1 z0), hv z0]
  exact ⟨fun _ => fin _ _, fun y => absurd (ks_cmp _) y⟩
theorem kl_front (I : kLI g h A i) (nx : kLN g R h i) (z5 z6 : Value) : kq_ex g 201 0 R 927 [.ref 1000092, .ref 1, .ref 72, .ref 102, .int (nI i), z5, z6] [] h := by
  obtain ⟨hf, hi, hL, hb, w, hC, hM⟩ := I
  obtain ⟨A', co, v, w1, hco, cY, rY⟩ := kw_front w (g.2 (i + 1)) (g.2 (i + 2))
  have hin : vp_in (0 : Int32) 1 := nI_in (c := 0) (N := 1) (by omega) (by omega)
  refine kq_seg (fun p => Nat.beq p 2873) 160 ?_
  refine And.intro (ks_ld hf hi hL (j := 1) (by decide)) ?_
  refine And.intro (ks_ld hf hi hL (j := 2) (by decide)) ?_
  rw [ks_v hf hi hL (j := 1) (by decide) (show nI i + Int32.ofInt 1 = nI i + nI 1 from rfl), ks_v hf hi hL (j := 2) (by decide) (show nI i + Int32.ofInt 2 = nI i + nI 2 from rfl)]
  refine kq_cnR (cY g h _ hf hb hC (fun h1 f1 c1 fc j1 => ⟨_, rfl, f1, ?_⟩))
  have hM1 : kmA A h1 := hM.fc fc
  refine And.intro (ks_ld f1 hi hL (j := 1) (by decide)) ?_
  refine And.intro (ks_ld f1 hi hL (j := 2) (by decide)) ?_
  rw [ks_v f1 hi hL (j := 1) (by decide) (show nI i + Int32.ofInt 1 = nI i + nI 1 from rfl), ks_v f1 hi hL (j := 2) (by decide) (show nI i + Int32.ofInt 2 = nI i + nI 2 from rfl)]
  refine rY g h1 _ f1 hM1 (fun h2 x f2 m2 fm t0 hv => ⟨f2, ?_⟩)
  refine kq_ci (kc_thrown f2) f2 ?_
  rw [t0]
  have fin : ∀ z5 z6, kq_ex g 201 0 R 2873 [.ref 1000092, .ref 1, .ref 72, .ref 102, .int (nI i), z5, z6] [] h2 := fun z5 z6 => nx A' h2 z5 z6 w1 f2 (c1.fm f1.1 fm) m2 (by rw [fm.1]; exact fc.1) (by rw [fm.2.1]; exact fc.2.1)
  refine ⟨fun _ => ⟨fun _ => fin _ _, fun z => ⟨hin, ?_⟩⟩, fun z => absurd rfl z⟩
  have z0 : co = 0 := (nI_eq (b := 0) (by omega) (by omega)).mp z
  rw [show ka_J h2 102 (Int32.ofInt 0).toNatClampNeg = v.toInt64 from (congrFun (fm.2.2.2.2.1 102) 0).trans (j1 z0), hv z0]
  exact ⟨fun _ => fin _ _, fun y => absurd (ks_cmp _) y⟩
end LS
