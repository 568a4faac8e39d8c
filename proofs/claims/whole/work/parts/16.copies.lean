/-! ===== arraycopy, clone, checkcast, new int[n][m] ===== -/
theorem arrV_congr {c : ClassId} {N : Nat} {f g : Nat → Value} (h : ∀ j, j < N → f j = g j) : arrV c N f = arrV c N g := by
  unfold arrV
  congr 1
  apply Array.ext
  · simp
  · intro i h1 h2
    simp at h1 ⊢
    exact h i h1
theorem ka_pushN {G : ka_G} {h h' : ka_H} {H H' : Heap} {z : Nat} (hr : ka_rel G h H) (hn : h'.1 = h.1 + z) (hlt : h.1 + z ≤ 1000000) (hK : ∀ b, b < h.1 ∨ h.1 + z ≤ b → ka_K h' b = ka_K h b) (hI : ∀ b, b < h.1 ∨ h.1 + z ≤ b → ∀ j, ka_I h' b j = ka_I h b j) (hP : ∀ b, b < h.1 ∨ h.1 + z ≤ b → ∀ j, ka_P h' b j = ka_P h b j) (hJ : ∀ b, b < h.1 ∨ h.1 + z ≤ b → ∀ j, ka_J h' b j = ka_J h b j)
    (hs : H'.size = H.size + z) (ho : ∀ q, q < H.size → H'[q]? = H[q]?) (hc : ∀ b, h.1 ≤ b → b < h.1 + z → ka_cell G h' b H') : ka_rel G h' H' := by
  obtain ⟨r1, r2, r3, r4, r5, r6, r7⟩ := hr
  refine ⟨by rw [hs, hn]; omega, by rw [hn]; omega, by rw [hn]; omega, fun q hq => ?_, fun b h1 h2 => ?_, fun b hb => ?_, fun i => ?_⟩
  · rw [ho q (by omega)]; exact r4 q hq
  · rw [hn] at h2
    by_cases e : b < h.1
    · exact ka_cell_congr (r5 b h1 e) (hK b (Or.inl e)) (hI b (Or.inl e)) (hP b (Or.inl e)) (hJ b (Or.inl e)) (ho _ (by rw [ka_ad_own (by omega)]; omega))
    · exact hc b (by omega) h2
  · rw [hn] at hb
    rw [hK b (by omega)]
    exact r6 b (by omega)
  · have e : 1000000 + i < h.1 ∨ h.1 + z ≤ 1000000 + i := by omega
    rw [hK _ e]
    refine ⟨(r7 i).1, fun j => ?_⟩
    rw [hI _ e, hP _ e]
    exact (r7 i).2 j
section KE
variable {p : Program} {l : Launch} {e : Env} {R : Room} {s : State} {m : MethodId} {args : Array Value} {below : List Frame} {meth : Method} {c : Code} {Q : State → Prop} {G : ka_G} {n0 t0 pc : Nat} {L S : List Value} {h : ka_H} {cc : ByteArray} {A0 : Array Value}
theorem ka_nn (z : Int32) (hz : ¬ z < 0) : z.toInt = (z.toNatClampNeg : Int) := by
  have hz0 : (0 : Int) ≤ z.toInt := by
    have := Int32.not_lt.mp hz
    simpa using Int32.le_iff_toInt_le.mp this
  show z.toInt = ((z.toInt.toNat : Nat) : Int)
  omega
theorem ka_n0 {z : Int32} (h : 0 ≤ z.toInt) : ¬ z < 0 := Int32.not_lt.mpr (Int32.le_iff_toInt_le.mpr (by simpa using h))
theorem kr_copy {x sr d : Nat} {sp dp n : Int32} {own : String} (hZa : ka_Za G) (hW : G.1.WarmedH s.vm) (hx : p.tables.exec = Jvm.exec) (hb : c.code = cc) (hml : c.maxLocals = L.length) (hd : decode cc pc = .ok (.invokestatic x, 3)) (hown : s.vm.findClass own = some m.cls) (hlink : (Cond.methodLink own x arraycopyName).before args s = true) (hnat : (Cond.native arraycopyName).before args s = true) (hstat : (Cond.static arraycopyName).before args s = true) (hini : (Cond.initialized "java/lang/System").before args s = true)
    (hks : (ka_K h sr).1 = 30) (hkd : (ka_K h d).1 = 30) (hS : (S.map fun v => (ka_cv G v).category).sum ≤ 8) (h1 : 0 ≤ sp.toInt) (h2 : 0 ≤ dp.toInt) (h3 : 0 ≤ n.toInt) (h4 : sp.toInt + n.toInt ≤ (ka_K h sr).2) (h5 : dp.toInt + n.toInt ≤ (ka_K h d).2) (hR : 1 ≤ R.frames) (hR2 : 40 ≤ R.locals)
    (k : ka_W G p l e R s m args below meth c Q n0 t0 (pc + 3) L S (ka_sF h d (ka_cpy (ka_I h sr) (ka_I h d) sp.toNatClampNeg dp.toNatClampNeg n.toNatClampNeg))) : ka_W G p l e R s m args below meth c Q n0 t0 pc L (.int n :: .int dp :: .ref d :: .int sp :: .ref sr :: S) h := by
  intro q1 q2 H locs ls hr hz hl
  obtain ⟨s1, s2, hcs⟩ := ka_ownA (a := sr) hr (Or.inl hks)
  obtain ⟨d1, d2, hcd⟩ := ka_ownA (a := d) hr (Or.inl hkd)
  have eav : ∀ a, (ka_K h a).1 = 30 → ka_av G h a = fun j => Value.int (ka_I h a j) := fun a z => by funext j; exact ka_av_i j (by omega)
  rw [eav sr hks, hks] at hcs
  rw [eav d hkd, hkd] at hcd
  obtain ⟨kA, comp, z1, z2, z3, -⟩ := hZa 30 (by omega)
  obtain ⟨kA', hkA', eA⟩ := hW.alike.2.2 _ _ z2
  have hkA3 : kA'.kind = .array comp .int := by rw [eA]; exact z3
  have nsp := ka_nn sp (ka_n0 h1)
  have ndp := ka_nn dp (ka_n0 h2)
  have nn := ka_nn n (ka_n0 h3)
  rw [List.map_cons, List.map_cons, List.map_cons, List.map_cons, List.map_cons, ka_cv_nz (show d ≠ 0 by omega), ka_cv_nz (show sr ≠ 0 by omega)]
  intro T hT X
  obtain ⟨vm', X', step⟩ := X.arraycopy hx hown hlink hnat hstat hini (src := ka_ad G sr) (dst := ka_ad G d) (srcPos := sp) (destPos := dp) (n := n) (by rw [hT]; exact hcs) (by rw [hT]; exact hcd)
    (fun _ q => (by cases q)) (fun _ q => (by cases q)) (fun q => (by cases q)) (fun q => (by cases q)) hkA' hkA' hkA3 hkA3 (by simp [refKind]) (ka_n0 h1) (ka_n0 h2) (ka_n0 h3)
    (by rw [arrV_size]; omega) (by rw [arrV_size]; omega)
    (fun vm₁ _ i hi => by
      have e9 : (arrV (G.2.2.1 30) (ka_K h sr).2 fun j => Value.int (ka_I h sr j)).slots.getD (sp.toNatClampNeg + i) .null = .int (ka_I h sr (sp.toNatClampNeg + i)) := by
        rw [Array.getD_eq_getD_getElem?, arrV_read _ _ (by omega)]
        rfl
      rw [e9]
      exact ⟨rfl, trivial⟩)
    (g := F0 m pc ls (.int n :: .int dp :: .ref (ka_ad G d) :: .int sp :: .ref (ka_ad G sr) :: S.map (ka_cv G))) rfl (hl.1.trans hml.symm) (rest := S.map (ka_cv G)) rfl (by rw [hb]; exact hd) hR
    (by
      have e9 : nativeFrameWords "java/lang/System" "arraycopy" 5 = 7 := rfl
      have e8 : (F0 m pc ls (.int n :: .int dp :: .ref (ka_ad G d) :: .int sp :: .ref (ka_ad G sr) :: S.map (ka_cv G))).monitorRoom = 0 := rfl
      rw [e9, e8, List.map_map]
      have : (List.map ((fun v => v.category) ∘ ka_cv G) S).sum ≤ 8 := hS
      omega)
  have e1 : copied (arrV (G.2.2.1 30) (ka_K h sr).2 fun j => Value.int (ka_I h sr j)) (arrV (G.2.2.1 30) (ka_K h d).2 fun j => Value.int (ka_I h d j)) sp dp n = arrV (G.2.2.1 30) (ka_K h d).2 (fun j => .int (va_cpy (ka_I h sr) (ka_I h d) sp.toNatClampNeg dp.toNatClampNeg n.toNatClampNeg j)) := va_copied (fun z => .int z) _ _ (ka_I h sr) (ka_I h d) (by omega)
  rw [e1] at X' step
  have hlt : ka_ad G d < H.size := (Array.getElem?_eq_some_iff.mp hcd).1
  have hheap : ((T.setVm vm').setCell (ka_ad G d) (arrV (G.2.2.1 30) (ka_K h d).2 (fun j => .int (va_cpy (ka_I h sr) (ka_I h d) sp.toNatClampNeg dp.toNatClampNeg n.toNatClampNeg j)))).heap = H.setIfInBounds (ka_ad G d) (arrV (G.2.2.1 30) (ka_K h d).2 (fun j => .int (va_cpy (ka_I h sr) (ka_I h d) sp.toNatClampNeg dp.toNatClampNeg n.toNatClampNeg j))) := by rw [← hT]; rfl
  obtain ⟨t, a1, b1⟩ := k q1 q2 (H.setIfInBounds (ka_ad G d) (arrV (G.2.2.1 30) (ka_K h d).2 (fun j => .int (va_cpy (ka_I h sr) (ka_I h d) sp.toNatClampNeg dp.toNatClampNeg n.toNatClampNeg j)))) _ ls
    (ka_upd hr rfl (fun _ => rfl) d1 d2 (fun b hb' j => congrFun (if_neg hb') j) (fun _ _ _ => rfl) (fun _ _ _ => rfl) (by simp) (fun q hq => by simp [Array.getElem?_setIfInBounds, Ne.symm hq]) (ka_cellA (Or.inl hkd) (by
      have e7 : ka_av G (ka_sF h d (ka_cpy (ka_I h sr) (ka_I h d) sp.toNatClampNeg dp.toNatClampNeg n.toNatClampNeg)) d = fun j => Value.int (va_cpy (ka_I h sr) (ka_I h d) sp.toNatClampNeg dp.toNatClampNeg n.toNatClampNeg j) := by
        funext j
        rw [ka_av_i j (by rw [show ka_K (ka_sF h d (ka_cpy (ka_I h sr) (ka_I h d) sp.toNatClampNeg dp.toNatClampNeg n.toNatClampNeg)) d = ka_K h d from rfl]; omega)]
        exact congrArg Value.int (congrFun (if_pos rfl) j)
      have e6 : ka_K (ka_sF h d (ka_cpy (ka_I h sr) (ka_I h d) sp.toNatClampNeg dp.toNatClampNeg n.toNatClampNeg)) d = ka_K h d := rfl
      rw [e6, e7, hkd]
      simp [Array.getElem?_setIfInBounds, hlt])))
    (fun z hz' => by
      rcases List.mem_append.mp hz' with h9 | h9
      · exact hz z h9
      · obtain ⟨y, -, hy⟩ := List.mem_map.mp h9
        rw [← hy]
        show ka_b G ≤ ka_ad G d
        rw [ka_ad_own (by have := hr.2.2.1; omega)]
        omega) hl _ hheap X'
  exact ⟨t, step t a1, b1⟩
theorem kr_clone {x a : Nat} {own : String} (hZa : ka_Za G) (hW : G.1.WarmedH s.vm) (hx : p.tables.exec = Jvm.exec) (hb : c.code = cc) (hml : c.maxLocals = L.length) (hd : decode cc pc = .ok (.invokevirtual x, 3)) (hown : s.vm.findClass own = some m.cls)
    (hlink : (Cond.methodLink own x ⟨"[I", "clone", "()Ljava/lang/Object;"⟩).before args s = true) (hsame : (Cond.sameMethod "[I" "java/lang/Object" "clone" "()Ljava/lang/Object;").before args s = true)
    (hnat : (Cond.native ⟨"java/lang/Object", "clone", "()Ljava/lang/Object;"⟩).before args s = true) (hinst : (Cond.instanceMethod ⟨"java/lang/Object", "clone", "()Ljava/lang/Object;"⟩).before args s = true)
    (hsel : (Cond.selects "[I" ⟨"[I", "clone", "()Ljava/lang/Object;"⟩ ⟨"java/lang/Object", "clone", "()Ljava/lang/Object;"⟩).before args s = true) (hcl : (Cond.castable "[I" "java/lang/Cloneable").before args s = true)
    (hk : (ka_K h a).1 = 30) (hS : (S.map fun v => (ka_cv G v).category).sum ≤ 8) (hlt : h.1 < 1000000) (hR : 1 ≤ R.frames) (hR2 : 40 ≤ R.locals) (hc9 : (h.1 - n0) + 1 ≤ R.cells) (hs9 : (h.2.1 - t0) + (ka_K h a).2 ≤ R.slots)
    (k : ka_W G p l e R s m args below meth c Q n0 t0 (pc + 3) L (.ref h.1 :: S) (ka_sF (ka_new h 30 (ka_K h a).2 (ka_K h a).2) h.1 (ka_I h a))) : ka_W G p l e R s m args below meth c Q n0 t0 pc L (.ref a :: S) h := by
  intro q1 q2 H locs ls hr hz hl
  obtain ⟨a1, a2, hc⟩ := ka_ownA (a := a) hr (Or.inl hk)
  have eav : ka_av G h a = fun j => Value.int (ka_I h a j) := by funext j; exact ka_av_i j (by omega)
  rw [eav, hk] at hc
  obtain ⟨kA, comp, z1, z2, z3, -⟩ := hZa 30 (by omega)
  obtain ⟨kA', hkA', eA⟩ := hW.alike.2.2 _ _ z2
  have hkA3 : kA'.kind = .array comp .int := by rw [eA]; exact z3
  have hnm : s.vm.findClass "[I" = some (G.2.2.1 30) := by rw [hW.alike.findClass]; exact z1
  obtain ⟨c0, t0', f1, f2, f3⟩ := Cond.castable_spec hcl
  cases hnm.symm.trans f1
  rw [List.map_cons, ka_cv_nz (show a ≠ 0 by omega)]
  intro T hT X
  obtain ⟨kT, hkT, eT⟩ := X.warmed.alike.2.2 _ _ hkA'
  obtain ⟨vm', X', st⟩ := X.cloneArray hx hown hlink hsame hnat hinst hsel (a := ka_ad G a) (cell := arrV (G.2.2.1 30) (ka_K h a).2 fun j => Value.int (ka_I h a j)) (by rw [hT]; exact hc) (fun k q => (by cases q)) (fun q => (by cases q)) hnm f2 f3
    (fun i v hv => by
      have hlt2 : i < (ka_K h a).2 := by
        have := (Array.getElem?_eq_some_iff.mp hv).1
        rw [arrV_size] at this
        exact this
      rw [arrV_read _ _ hlt2] at hv
      cases hv
      have hk9 : T.vm.classes[G.2.2.1 30]? = some kT := hkT
      have hk8 : kT.kind = .array comp .int := by rw [eT]; exact hkA3
      show T.fitsSlot (G.2.2.1 30) .none i _ = true
      simp [State.fitsSlot, State.slotType?, hk9, hk8, fits])
    (g := F0 m pc ls (.ref (ka_ad G a) :: S.map (ka_cv G))) rfl (hl.1.trans hml.symm) rfl (by rw [hb]; exact hd) hR
    (by
      have e8 : (F0 m pc ls (.ref (ka_ad G a) :: S.map (ka_cv G))).monitorRoom = 0 := rfl
      rw [e8, List.map_map]
      have : (List.map ((fun v => v.category) ∘ ka_cv G) S).sum ≤ 8 := hS
      omega) hc9 (by rw [arrV_size]; exact hs9) (hloader := Vm.clonesLoader_of_array hkA' hkA3)
  have hsz : (arrV (G.2.2.1 30) (ka_K h a).2 fun j => Value.int (ka_I h a j)).slots.size = (ka_K h a).2 := arrV_size _ _ _
  have hcellE : ({ cls := (arrV (G.2.2.1 30) (ka_K h a).2 fun j => Value.int (ka_I h a j)).cls, slots := (arrV (G.2.2.1 30) (ka_K h a).2 fun j => Value.int (ka_I h a j)).slots } : Cell) = arrV (G.2.2.1 30) (ka_K h a).2 fun j => Value.int (ka_I h a j) := rfl
  rw [hcellE, hsz] at X'
  rw [hcellE] at st
  have k1 := k (Nat.le_succ_of_le q1) (Nat.le_trans q2 (Nat.le_add_right _ _)) (H.push (arrV (G.2.2.1 30) (ka_K h a).2 fun j => Value.int (ka_I h a j))) locs ls
    (ka_push hr rfl hlt (fun b hb' => ka_new_K (kd := 30) (sz := (ka_K h a).2) (sl := (ka_K h a).2) hb') (fun b hb' j => (congrFun (if_neg hb') j).trans (ka_new_I (kd := 30) (sz := (ka_K h a).2) (sl := (ka_K h a).2) hb' j)) (fun b hb' j => ka_new_P (kd := 30) (sz := (ka_K h a).2) (sl := (ka_K h a).2) hb' j) (fun b hb' j => ka_new_J (kd := 30) (sz := (ka_K h a).2) (sl := (ka_K h a).2) hb' j) (Array.size_push _) (fun q hq => by rw [Array.getElem?_push, if_neg (Nat.ne_of_lt hq)]) (ka_cellA (Or.inl (congrArg Prod.fst (ka_new_Ks (h := h) (kd := 30) (sz := (ka_K h a).2) (sl := (ka_K h a).2)))) (by
      have e6 : ka_K (ka_sF (ka_new h 30 (ka_K h a).2 (ka_K h a).2) h.1 (ka_I h a)) h.1 = (30, (ka_K h a).2) := ka_new_Ks (h := h) (kd := 30) (sz := (ka_K h a).2) (sl := (ka_K h a).2)
      have e7 : ka_av G (ka_sF (ka_new h 30 (ka_K h a).2 (ka_K h a).2) h.1 (ka_I h a)) h.1 = fun j => Value.int (ka_I h a j) := by
        funext j
        rw [ka_av_i j (by rw [e6]; simp)]
        exact congrArg Value.int (congrFun (if_pos rfl) j)
      rw [e6, e7, ka_ad_new hr hlt, Array.getElem?_push_size]))) hz hl
  rw [List.map_cons, ka_cv_nz (by have := hr.2.1; omega), ka_ad_new hr hlt] at k1
  have e1 : (ka_sF (ka_new h 30 (ka_K h a).2 (ka_K h a).2) h.1 (ka_I h a)).1 - n0 = h.1 - n0 + 1 := by show h.1 + 1 - n0 = _; omega
  have e2 : (ka_sF (ka_new h 30 (ka_K h a).2 (ka_K h a).2) h.1 (ka_I h a)).2.1 - t0 = h.2.1 - t0 + (ka_K h a).2 := by show h.2.1 + (ka_K h a).2 - t0 = _; omega
  rw [e1, e2] at k1
  obtain ⟨t, b1, b2⟩ := k1 ((T.setVm vm').pushCell (arrV (G.2.2.1 30) (ka_K h a).2 fun j => Value.int (ka_I h a j))) (by rw [← hT]; rfl) X'
  refine ⟨t, st t ?_, b2⟩
  rw [hT]
  exact b1
theorem kr_cast {x a : Nat} {own : String} (hZa : ka_Za G) (hW : G.1.WarmedH s.vm) (hx : p.tables.exec = Jvm.exec) (hb : c.code = cc) (hd : decode cc pc = .ok (.checkcast x, 3)) (hown : s.vm.findClass own = some m.cls) (hlink : (Cond.classLink own x "[I").before args s = true) (hk : (ka_K h a).1 = 30)
    (k : ka_W G p l e R s m args below meth c Q n0 t0 (pc + 3) L (.ref a :: S) h) : ka_W G p l e R s m args below meth c Q n0 t0 pc L (.ref a :: S) h := by
  intro q1 q2 H locs ls hr hz hl
  have k1 := k q1 q2 H locs ls hr hz hl
  obtain ⟨a1, a2, hc⟩ := ka_ownA (a := a) hr (Or.inl hk)
  rw [hk] at hc
  obtain ⟨kA, comp, z1, z2, z3, -⟩ := hZa 30 (by omega)
  have hnm : s.vm.findClass "[I" = some (G.2.2.1 30) := by rw [hW.alike.findClass]; exact z1
  rw [List.map_cons, ka_cv_nz (show a ≠ 0 by omega)] at k1 ⊢
  intro T hT X
  obtain ⟨vm', X', st⟩ := X.checkcastYes hx hown hlink (by rw [hT]; exact hc) rfl hnm (va_asg _ _) (g := F0 m pc ls (.ref (ka_ad G a) :: S.map (ka_cv G))) rfl rfl (by rw [hb]; exact hd)
  obtain ⟨t, b1, b2⟩ := k1 (T.setVm vm') hT X'
  exact ⟨t, st t b1, b2⟩
theorem ka_outer (c : ClassId) (N h0 : Nat) : ∀ i : Nat, Jvm.Free.Multi.outerC c N h0 i = arrV c N (fun j => if j < i then Value.ref (h0 + 1 + j) else .null)
  | 0 => by
    show ({ cls := c, slots := Array.replicate N .null, vm := .none } : Cell) = _
    rw [arrV_new]
    refine congrArg (arrV c N) (funext fun j => ?_)
    simp
  | i + 1 => by
    show (Jvm.Free.Multi.outerC c N h0 i).setSlot i (.ref (h0 + 1 + i)) = _
    rw [ka_outer c N h0 i, arrV_store]
    refine congrArg (arrV c N) (funext fun j => ?_)
    by_cases e : j = i
    · subst e
      simp [updV]
    · by_cases h : j < i
      · simp [updV, e, h, Nat.lt_succ_of_lt h]
      · simp [updV, e, h, show ¬ j < i + 1 by omega]
theorem kr_multi {x : Nat} {n z : Int32} {own : String} (hZa : ka_Za G) (hW : G.1.WarmedH s.vm) (hx : p.tables.exec = Jvm.exec) (hb : c.code = cc) (hd : decode cc pc = .ok (.multianewarray x 2, 4)) (hown : s.vm.findClass own = some m.cls) (hlink : (Cond.classLink own x "[[I").before args s = true) (hover : (Cond.arrayOver (.array .int)).before args s = true) (harr : (Cond.arrayClass .int).before args s = true)
    (hn : ¬ n < 0) (hN : n.toNatClampNeg ≤ 100) (hz : ¬ z < 0) (hZ : z.toNatClampNeg ≤ 100) (hlt : h.1 + 200 < 1000000) (hc9 : (h.1 - n0) + (1 + n.toNatClampNeg) ≤ R.cells) (hs9 : (h.2.1 - t0) + (n.toNatClampNeg + n.toNatClampNeg * z.toNatClampNeg) ≤ R.slots)
    (k : ka_W G p l e R s m args below meth c Q n0 t0 (pc + 4) L (.ref h.1 :: S) (ka_mul h n.toNatClampNeg z.toNatClampNeg)) : ka_W G p l e R s m args below meth c Q n0 t0 pc L (.int z :: .int n :: S) h := by
  intro q1 q2 H locs ls hr hzl hl
  rw [List.map_cons, List.map_cons]
  intro T hT X
  obtain ⟨vm₁, cA, comp, -, fA, fC, -, -, X', step⟩ := X.multianewarray2F hx hown (ty := .int) hlink hover harr (g := F0 m pc ls (.int z :: .int n :: S.map (ka_cv G))) rfl (by rw [hb]; exact hd) rfl hn hz (by omega) (by show z.toNatClampNeg * 4 ≤ _; omega) (by omega) rfl rfl hc9 hs9
  have hcA : cA = G.2.2.1 37 := by
    obtain ⟨_, _, z1, -, -, -⟩ := hZa 37 (by omega)
    rw [hW.alike.findClass] at fA
    exact Option.some.inj (fA.symm.trans z1)
  have hcC : comp = G.2.2.1 30 := by
    obtain ⟨_, _, z1, -, -, -⟩ := hZa 30 (by omega)
    rw [hW.alike.findClass] at fC
    exact Option.some.inj (fC.symm.trans z1)
  subst hcA; subst hcC
  generalize hF : Jvm.Free.Multi.fill (T.setVm vm₁) (G.2.2.1 37) (G.2.2.1 30) n.toNatClampNeg z.toNatClampNeg (defaultValue .int) n.toNatClampNeg = F at X' step
  have hTh : (T.setVm vm₁).heap = H := hT
  have f1 := Jvm.Free.Multi.fill_facts (T.setVm vm₁) (G.2.2.1 37) (G.2.2.1 30) n.toNatClampNeg z.toNatClampNeg (defaultValue .int) n.toNatClampNeg
  have f2 := fun a => Jvm.Free.Multi.fill_old (T.setVm vm₁) (G.2.2.1 37) (G.2.2.1 30) n.toNatClampNeg z.toNatClampNeg (defaultValue .int) (a := a)
  have f3 := Jvm.Free.Multi.fill_inner (T.setVm vm₁) (G.2.2.1 37) (G.2.2.1 30) n.toNatClampNeg z.toNatClampNeg (defaultValue .int) n.toNatClampNeg
  rw [hF, hTh] at f1
  have hsize : F.heap.size = H.size + (n.toNatClampNeg + 1) := by rw [f1.1]; omega
  have hH := ka_ad_new hr (by omega)
  have had : ∀ j, j ≤ n.toNatClampNeg → ka_ad G (h.1 + j) = H.size + j := by
    intro j hj
    rw [ka_ad_own (by omega)]
    have := hr.1; have := hr.2.1
    omega
  have eK0 : ka_K (ka_mul h n.toNatClampNeg z.toNatClampNeg) h.1 = (37, n.toNatClampNeg) := if_pos rfl
  have k1 := k (Nat.le_trans q1 (Nat.le_add_right _ _)) (Nat.le_trans q2 (Nat.le_add_right _ _)) F.heap locs ls
    (ka_pushN (z := n.toNatClampNeg + 1) hr rfl (by omega)
      (fun b hb' => (if_neg (show ¬ b = h.1 by omega)).trans (if_neg (show ¬ (h.1 < b ∧ b ≤ h.1 + n.toNatClampNeg) by omega)))
      (fun b hb' j => congrFun (if_neg (show ¬ (h.1 ≤ b ∧ b ≤ h.1 + n.toNatClampNeg) by omega)) j)
      (fun b hb' j => (congrFun (if_neg (show ¬ b = h.1 by omega)) j).trans (congrFun (if_neg (show ¬ (h.1 < b ∧ b ≤ h.1 + n.toNatClampNeg) by omega)) j))
      (fun b hb' j => congrFun (if_neg (show ¬ (h.1 ≤ b ∧ b ≤ h.1 + n.toNatClampNeg) by omega)) j)
      hsize (fun q hq => by
        have := f2 q (by rw [hTh]; exact hq) n.toNatClampNeg
        rw [hF, hTh] at this
        exact this)
      (fun b b1 b2 => by
        by_cases eb : b = h.1
        · subst eb
          refine ka_cellA (by rw [eK0]; simp) ?_
          rw [eK0, hH, f1.2.1, ka_outer]
          refine congrArg some (arrV_congr fun j hj => ?_)
          rw [ka_av_r j (by rw [eK0]; simp), if_pos hj]
          have eP : ka_P (ka_mul h n.toNatClampNeg z.toNatClampNeg) h.1 j = h.1 + 1 + j := congrFun (if_pos rfl) j
          rw [eP, ka_cv_nz (by omega), show h.1 + 1 + j = h.1 + (j + 1) by omega, had (j + 1) (by omega)]
          exact congrArg Value.ref (show (H.size + 1 + j : Nat) = H.size + (j + 1) by omega)
        · obtain ⟨j, rfl⟩ : ∃ j, b = h.1 + (j + 1) := ⟨b - h.1 - 1, by omega⟩
          have eK : ka_K (ka_mul h n.toNatClampNeg z.toNatClampNeg) (h.1 + (j + 1)) = (30, z.toNatClampNeg) := (if_neg (show ¬ h.1 + (j + 1) = h.1 by omega)).trans (if_pos (show h.1 < h.1 + (j + 1) ∧ h.1 + (j + 1) ≤ h.1 + n.toNatClampNeg by omega))
          refine ka_cellA (by rw [eK]; simp) ?_
          have f4 := f3 j (by omega)
          rw [hF, hTh] at f4
          rw [eK, had (j + 1) (by omega), show H.size + (j + 1) = H.size + 1 + j by omega, f4]
          show some (({ cls := G.2.2.1 30, slots := Array.replicate z.toNatClampNeg (defaultValue .int), vm := .none } : Cell)) = _
          rw [arrV_new]
          refine congrArg some (arrV_congr fun i hi => ?_)
          rw [ka_av_i i (by rw [eK]; simp)]
          have eI : ka_I (ka_mul h n.toNatClampNeg z.toNatClampNeg) (h.1 + (j + 1)) i = 0 := congrFun (if_pos (show h.1 ≤ h.1 + (j + 1) ∧ h.1 + (j + 1) ≤ h.1 + n.toNatClampNeg by omega)) i
          rw [eI]
          rfl)) hzl hl
  rw [List.map_cons, ka_cv_nz (by have := hr.2.1; omega), hH] at k1
  have e1 : (ka_mul h n.toNatClampNeg z.toNatClampNeg).1 - n0 = h.1 - n0 + 1 + n.toNatClampNeg := by show h.1 + (n.toNatClampNeg + 1) - n0 = _; omega
  have e2 : (ka_mul h n.toNatClampNeg z.toNatClampNeg).2.1 - t0 = h.2.1 - t0 + n.toNatClampNeg + n.toNatClampNeg * z.toNatClampNeg := by show h.2.1 + (n.toNatClampNeg + n.toNatClampNeg * z.toNatClampNeg) - t0 = _; omega
  rw [e1, e2] at k1
  obtain ⟨t, b1, b2⟩ := k1 F rfl X'
  refine ⟨t, step t ?_, b2⟩
  rw [hT]
  exact b1
end KE
