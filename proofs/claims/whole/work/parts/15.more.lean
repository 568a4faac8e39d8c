/-! ===== stores of references, copies, clone, text, statics, switches ===== -/
def ka_soV (G : ka_G) (i f : Nat) : Value := if (i < 14 ∧ f = 1) ∨ (14 ≤ i ∧ f = 0) then ka_cv G (.ref (ka_sRf i f)) else .int (ka_sIn G i f)
def ka_soC (i : Nat) : String := if i < 14 then "KeptAnswers$Op" else "java/lang/String"
abbrev ka_A (G : ka_G) : Nat → Prop := fun q => ka_b G ≤ q
def ka_Zo (G : ka_G) : Prop := ∀ i, (i < 14 ∨ 20 ≤ i ∧ i < 39) → va_O (ka_soC i) (G.2.2.2.1 i) (ka_A G) G.1 G.1.heap ∧ ∀ f, f < (ka_sK G i).2 → va_OF (ka_soF i f).1 (ka_soF i f).2.1 (ka_soF i f).2.2 (ka_soV G i f) (G.2.2.2.1 i) (ka_A G) G.1 G.1.heap
section KD
variable {p : Program} {l : Launch} {e : Env} {R : Room} {s : State} {m : MethodId} {args : Array Value} {below : List Frame} {meth : Method} {c : Code} {Q : State → Prop} {G : ka_G} {n0 t0 pc : Nat} {L S : List Value} {h : ka_H} {cc : ByteArray} {A0 : Array Value}
theorem kr_aast {a w : Nat} {j : Int32} (hZa : ka_Za G) (hZc : ka_Zc G) (hW : G.1.WarmedH s.vm) (hx : p.tables.exec = Jvm.exec) (hb : c.code = cc) (hd : decode cc pc = .ok (.aastore, 1))
    (hk : (ka_K h a).1 = 34 ∧ (ka_K h w).1 = 5 ∨ (ka_K h a).1 = 35 ∧ (ka_K h w).1 = 4 ∨ (ka_K h a).1 = 36 ∧ (ka_K h w).1 = 3) (hin : vp_in j (ka_K h a).2)
    (k : ka_W G p l e R s m args below meth c Q n0 t0 (pc + 1) L S (ka_sP h a j.toNatClampNeg w)) : ka_W G p l e R s m args below meth c Q n0 t0 pc L (.ref w :: .int j :: .ref a :: S) h := by
  intro q1 q2 H locs ls hr hz hl
  have hka : (ka_K h a).1 = 30 ∨ (ka_K h a).1 = 31 ∨ (ka_K h a).1 = 32 ∨ (34 ≤ (ka_K h a).1 ∧ (ka_K h a).1 ≤ 37) := by omega
  have hkw : (ka_K h w).1 = 39 - (ka_K h a).1 := by omega
  have hci : (ka_K h w).1 < 10 := by omega
  obtain ⟨a1, a2, hc⟩ := ka_ownA hr hka
  obtain ⟨w1, w2, cell, o1, o2, o3, o4⟩ := ka_ownO hr hci
  have hcls := (u_Kn_moved hW.alike (hZc _ hci)).2
  obtain ⟨kA, comp, z1, z2, z3, z4⟩ := hZa (ka_K h a).1 (by omega)
  obtain ⟨kA', hkA', eA⟩ := hW.alike.2.2 _ _ z2
  have hcomp : comp = G.2.1.1 (ka_K h w).1 := by
    have z5 := z4 (by omega)
    rw [← hkw] at z5
    have := hcls.1
    rw [hW.alike.findClass] at this
    exact Option.some.inj (z5.symm.trans this)
  subst hcomp
  obtain ⟨kC, hkC, hkind⟩ := hcls.2
  have hloc : ∀ z ∈ locs ++ [(⟨ka_ad G a, j.toNatClampNeg⟩ : Loc)], ka_b G ≤ z.base := by
    intro z hz'
    rcases List.mem_append.mp hz' with h9 | h9
    · exact hz z h9
    · rw [List.mem_singleton.mp h9]
      show ka_b G ≤ ka_ad G a
      rw [ka_ad_own (by have := hr.2.2.1; omega)]
      omega
  have href : (ka_aty (ka_K h a).1).isReference = true := by
    rcases (show (ka_K h a).1 = 34 ∨ (ka_K h a).1 = 35 ∨ (ka_K h a).1 = 36 by omega) with z | z | z <;> rw [z] <;> rfl
  rw [List.map_cons, List.map_cons, List.map_cons, ka_cv_nz (show a ≠ 0 by omega), ka_cv_nz (show w ≠ 0 by omega)]
  refine W.aast hx hb hc (fun q z => (by cases z)) (fun z => (by cases z)) hkA' (by rw [eA]; exact z3) href hkC ⟨fun z => hin (Or.inl z), by rw [arrV_size]; exact Nat.not_le.mp fun z => hin (Or.inr z)⟩ o1 (fun q z => (by rw [o3] at z; cases z)) (by rw [o2]; exact hkC) (by rw [o2]; exact va_assign hcls) rfl rfl hd fun H' g1 g2 g3 => ?_
  refine k q1 q2 H' _ ls (ka_relA hr hka rfl (fun _ => rfl) (fun _ _ _ => rfl) (fun b hb' i => ka_uN _ _ _ _ hb' i) (fun _ _ _ => rfl) (fun i => ?_) g2 g3 g1) hloc hl
  rw [ka_av_r (h := ka_sP h a j.toNatClampNeg w) i (by rw [show ka_K (ka_sP h a j.toNatClampNeg w) a = ka_K h a from rfl]; omega)]
  unfold updV
  by_cases ei : i = j.toNatClampNeg
  · rw [if_pos ei, ei, show ka_P (ka_sP h a j.toNatClampNeg w) a j.toNatClampNeg = w from ka_uS _ _ _ _, ka_cv_nz (by omega)]
  · rw [if_neg ei, ka_av_r i (by omega), show ka_P (ka_sP h a j.toNatClampNeg w) a i = ka_P h a i from ka_uJ _ _ _ _ _ ei]
theorem kr_ldcS {x r : Nat} {own tx : String} (hW : G.1.WarmedH s.vm) (hx : p.tables.exec = Jvm.exec) (hb : c.code = cc) (hd : decode cc pc = .ok (.ldc x, 2)) (hown : s.vm.findClass own = some m.cls) (hr0 : r ≠ 0) (hZ : vk_R own x tx (ka_ad G r) G.1)
    (k : ka_W G p l e R s m args below meth c Q n0 t0 (pc + 2) L (.ref r :: S) h) : ka_W G p l e R s m args below meth c Q n0 t0 pc L S h := by
  intro q1 q2 H locs ls hr hz hl
  have k1 := k q1 q2 H locs ls hr hz hl
  rw [List.map_cons, ka_cv_nz hr0] at k1
  exact va_ldcS hx hb hown (vk_R.warm hW hZ) hd k1
theorem kr_gets {x : Nat} {own C n d : String} {v : Value} (hW : G.1.WarmedH s.vm) (hx : p.tables.exec = Jvm.exec) (hb : c.code = cc) (hd : decode cc pc = .ok (.getstatic x, 3)) (hown : s.vm.findClass own = some m.cls) (hZ : va_Z C n d (ka_cv G v) (ka_A G) G.1 G.1.heap)
    (hlink : (Cond.fieldLink own x C n d).before args s = true ∨ ∃ host, (Cond.fieldLinkNest own x C n d host).before args s = true) (k : ka_W G p l e R s m args below meth c Q n0 t0 (pc + 3) L (v :: S) h) : ka_W G p l e R s m args below meth c Q n0 t0 pc L S h := by
  intro q1 q2 H locs ls hr hz hl
  have k1 := k q1 q2 H locs ls hr hz hl
  rw [List.map_cons] at k1
  obtain ⟨cf, kf, fi, f, a, cell, h1, h2, h3, h4, h5, h6, h7, h8⟩ := va_Z.moved hW.alike hZ
  have ha : H[a]? = some cell := by rw [hr.2.2.2.1 a (Nat.not_le.mp h8)]; exact h5
  rcases hlink with hlink | ⟨host, hlink⟩
  · exact W.gets hx hb hown hlink h1 h2 h3 h4 ha (fun e => (by rw [e] at h6; cases h6)) h7 rfl hd k1
  · exact va_WgetsN hx hb hown hlink h1 h2 h3 h4 ha (fun e => (by rw [e] at h6; cases h6)) h7 rfl hd k1
theorem ka_sK_o {i : Nat} (h : (ka_sK G i).1 = 20 ∨ (ka_sK G i).1 = 21) : (i < 14 ∧ (ka_sK G i) = (20, 3)) ∨ (20 ≤ i ∧ i < 39 ∧ (ka_sK G i) = (21, 2)) := by
  unfold ka_sK at h ⊢
  by_cases h1 : i < 14
  · rw [if_pos h1]; exact Or.inl ⟨h1, rfl⟩
  · rw [if_neg h1] at h ⊢
    by_cases h2 : i < 20
    · rw [if_pos h2] at h; simp at h
    · rw [if_neg h2] at h ⊢
      by_cases h3 : i < 39
      · rw [if_pos h3]; exact Or.inr ⟨by omega, h3, rfl⟩
      · rw [if_neg h3] at h
        repeat' split at h
        all_goals simp at h
/-- a constant's cell -/
theorem ka_sobj {H : Heap} {a : Nat} (hr : ka_rel G h H) (hk : (ka_K h a).1 = 20 ∨ (ka_K h a).1 = 21) : ∃ i, a = 1000000 + i ∧ ka_K h a = ka_sK G i ∧ ka_ad G a = G.2.2.2.1 i ∧ ((i < 14 ∧ (ka_K h a).1 = 20 ∧ (ka_K h a).2 = 3) ∨ (20 ≤ i ∧ i < 39 ∧ (ka_K h a).1 = 21 ∧ (ka_K h a).2 = 2)) := by
  obtain ⟨r1, r2, r3, r4, r5, r6, r7⟩ := hr
  have h1 : ¬ a < 1000000 := fun q => by
    by_cases h0 : a = 0 ∨ h.1 ≤ a ∧ a < 1000000
    · have := r6 a h0; omega
    · have := (r5 a (by omega) (by omega)).2.2.2.2.2; omega
  obtain ⟨i, rfl⟩ : ∃ i, a = 1000000 + i := ⟨a - 1000000, by omega⟩
  have e1 := (r7 i).1
  refine ⟨i, rfl, e1, by unfold ka_ad; rw [if_neg h1, Nat.add_sub_cancel_left], ?_⟩
  rw [e1] at hk ⊢
  rcases ka_sK_o hk with ⟨z1, z2⟩ | ⟨z1, z2, z3⟩
  · rw [z2]; exact Or.inl ⟨z1, rfl, rfl⟩
  · rw [z3]; exact Or.inr ⟨z1, z2, rfl, rfl⟩
theorem kr_getfS {x f a ci : Nat} {own : String} {v : Value} (hZo : ka_Zo G) (hZs : ka_Zs G) (hW : G.1.WarmedH s.vm) (hx : p.tables.exec = Jvm.exec) (hb : c.code = cc) (hd : decode cc pc = .ok (.getfield x, 3)) (hown : s.vm.findClass own = some m.cls) (hci : ci = 20 ∧ f < 3 ∨ ci = 21 ∧ f < 2)
    (hlink : (Cond.fieldLink own x (ka_soF (if ci = 20 then 0 else 20) f).1 (ka_soF (if ci = 20 then 0 else 20) f).2.1 (ka_soF (if ci = 20 then 0 else 20) f).2.2).before args s = true) (hk : (ka_K h a).1 = ci)
    (hv : ((ci = 20 ∧ f = 1) ∨ (ci = 21 ∧ f = 0)) ∧ v = .ref (ka_P h a f) ∨ ¬ ((ci = 20 ∧ f = 1) ∨ (ci = 21 ∧ f = 0)) ∧ v = .int (ka_I h a f))
    (k : ka_W G p l e R s m args below meth c Q n0 t0 (pc + 3) L (v :: S) h) : ka_W G p l e R s m args below meth c Q n0 t0 pc L (.ref a :: S) h := by
  intro q1 q2 H locs ls hr hz hl
  have k1 := k q1 q2 H locs ls hr hz hl
  obtain ⟨i, ha, e1, e2, e3⟩ := ka_sobj (a := a) hr (by omega)
  obtain ⟨-, hF⟩ := hZo i (by omega)
  have hf : f < (ka_sK G i).2 := by rw [← e1]; omega
  obtain ⟨cf, kf, fi, fd, cell, h1, h2, h3, h4, h5, h6⟩ := hF f hf
  obtain ⟨kf', hi', -⟩ := State.fieldFound?_setVm (s := G.1) (vm' := s.vm) hW.alike h1
  have hi2 : s.fieldFound? (ka_soF i f).1 (ka_soF i f).2.1 (ka_soF i f).2.2 = some (cf, kf', fi, fd) := hi'
  have esF : ka_soF (if ci = 20 then 0 else 20) f = ka_soF i f := by
    unfold ka_soF
    rcases e3 with ⟨z1, z2, -⟩ | ⟨z1, z2, z3, -⟩
    · rw [if_pos (by omega : ci = 20), if_pos (by decide), if_pos z1]
    · rw [if_neg (by omega : ¬ ci = 20), if_neg (by decide), if_neg (by omega : ¬ i < 14)]
  rw [esF] at hlink
  have hc : H[ka_ad G a]? = some cell := by rw [e2, hr.2.2.2.1 _ (Nat.not_le.mp h6)]; exact h3
  have ev : ka_soV G i f = ka_cv G v := by
    have g1 := (hr.2.2.2.2.2.2 i).2 f
    rw [ha] at hv
    rw [g1.1, g1.2] at hv
    unfold ka_soV
    rcases hv with ⟨z1, z2⟩ | ⟨z1, z2⟩
    · rw [if_pos (by omega), z2]
    · rw [if_neg (by omega), z2]; rfl
  rw [ev] at h5
  rw [List.map_cons] at k1 ⊢
  rw [ka_cv_nz (by omega)]
  exact W.getf hx hb hown hlink hi2 h2 hc h4 h5 rfl rfl hd k1
theorem kr_obj {x a : Nat} {own : String} (hx : p.tables.exec = Jvm.exec) (hb : c.code = cc) (hml : c.maxLocals = L.length) (hd : decode cc pc = .ok (.invokespecial x, 3)) (hown : s.vm.findClass own = some m.cls) (hlink : (Cond.methodLink own x Lib.objectInit).before args s = true) (hinst : (Cond.instanceMethod Lib.objectInit).before args s = true) (hcode : (Cond.code Lib.objectInit ⟨#[0xb1]⟩ 1 none).before args s = true)
    (ha : a ≠ 0) (hS : (S.map fun v => (ka_cv G v).category).sum ≤ 8) (hR : 1 ≤ R.frames) (hR2 : 20 ≤ R.locals) (k : ka_W G p l e R s m args below meth c Q n0 t0 (pc + 3) L S h) : ka_W G p l e R s m args below meth c Q n0 t0 pc L (.ref a :: S) h := by
  intro q1 q2 H locs ls hr hz hl
  have k1 := k q1 q2 H locs ls hr hz hl
  rw [List.map_cons, ka_cv_nz ha]
  refine W.objInit hx hb hown hlink hinst hcode rfl (hl.1.trans hml.symm) rfl hd hR ?_ k1
  have := lv_room (m := m) (pc := pc) (ls := ls) (rest := []) (st := S.map (ka_cv G)) (by rw [List.map_map]; exact hS)
  show 2 * (F0 m pc ls _).monitorRoom + _ + 12 ≤ _
  have e9 : (F0 m pc ls (Value.ref (ka_ad G a) :: S.map (ka_cv G))).monitorRoom = (F0 m pc ls []).monitorRoom := rfl
  rw [e9]
  omega
theorem ka_sw_at {a : Int32} {kk : Nat → Prop} {d : Nat} : ∀ (ts : List Nat) (lo : Int32), ka_sw a kk d lo ts → (∀ j, j < ts.length → ¬ a = lo + Int32.ofNat j) ∧ kk d ∨ ∃ j t, ts[j]? = some t ∧ a = lo + Int32.ofNat j ∧ kk t
  | [], _, h => Or.inl ⟨fun j hj => absurd hj (Nat.not_lt_zero j), h⟩
  | t :: ts, lo, h => by
    by_cases e : a = lo
    · exact Or.inr ⟨0, t, rfl, by rw [e]; simp, h.1 e⟩
    · rcases ka_sw_at ts (lo + 1) (h.2 e) with ⟨h1, h2⟩ | ⟨j, t', h1, h2, h3⟩
      · refine Or.inl ⟨fun j hj => ?_, h2⟩
        cases j with
        | zero => intro q; exact e (by rw [q]; simp)
        | succ j =>
          intro q
          refine h1 j (Nat.lt_of_succ_lt_succ hj) ?_
          rw [q, Int32.add_assoc]
          congr 1
          show nI (j + 1) = 1 + nI j
          rw [nI_succ, Int32.add_comm]
      · refine Or.inr ⟨j + 1, t', h1, ?_, h3⟩
        rw [h2, Int32.add_assoc]
        congr 1
        show 1 + nI j = nI (j + 1)
        rw [nI_succ, Int32.add_comm]
theorem kr_switch {dflt lo hi : Int} {offs : Array Int} {len d : Nat} {tl : List Nat} {a : Int32} {kk : Nat → Prop} (hx : p.tables.exec = Jvm.exec) (hb : c.code = cc) (hd : decode cc pc = .ok (.tableswitch dflt lo hi offs, len)) (hlo : 0 ≤ lo) (hhi : hi < 1000) (hlen : hi + 1 = lo + tl.length) (hsz : offs.size = tl.length) (hdf : (pc : Int) + dflt = d) (hts : ∀ j, j < tl.length → (pc : Int) + offs.getD j 0 = tl.getD j 0)
    (hsw : ka_sw a kk d (Int32.ofInt lo) tl) (k : ∀ t, kk t → ka_W G p l e R s m args below meth c Q n0 t0 t L S h) : ka_W G p l e R s m args below meth c Q n0 t0 pc L (.int a :: S) h := by
  intro q1 q2 H locs ls hr hz hl
  obtain ⟨lo', rfl⟩ : ∃ n : Nat, lo = n := ⟨lo.toNat, by omega⟩
  have eI : ∀ j : Nat, j < tl.length → (Int32.ofInt (lo' : Int) + Int32.ofNat j).toInt = (lo' : Int) + j := by
    intro j hj
    have e1 : Int32.ofInt (lo' : Int) + Int32.ofNat j = nI (lo' + j) := by
      rw [← nI_add]; rfl
    rw [e1, nI_toInt (by omega)]
    omega
  rcases ka_sw_at tl _ hsw with ⟨h1, h2⟩ | ⟨j, t, h1, h2, h3⟩
  · refine lv_tableOut hx hb hd ?_ hdf (k d h2 q1 q2 H locs ls hr hz hl)
    refine Classical.byContradiction fun hn => ?_
    have hj : (a.toInt - lo').toNat < tl.length := by omega
    refine h1 _ hj (Int32.toInt_inj.mp ?_)
    rw [eI _ hj]
    omega
  · have hj : j < tl.length := (List.getElem?_eq_some_iff.mp h1).1
    have e2 := eI j hj
    rw [← h2] at e2
    have e3 : (a.toInt - (lo' : Int)).toNat = j := by omega
    have e4 := hts j hj
    have e5 : tl.getD j 0 = t := by rw [List.getD_eq_getElem?_getD, h1]; rfl
    have e6 : offs[j]? = some (offs.getD j 0) := by
      rw [Array.getD_eq_getD_getElem?, Array.getElem?_eq_getElem (by omega)]; rfl
    refine lv_tableIn hx hb hd (by omega) (by omega) (off := offs.getD j 0) (by rw [e3]; exact e6) (by rw [e4, e5]) (k t h3 q1 q2 H locs ls hr hz hl)
end KD
