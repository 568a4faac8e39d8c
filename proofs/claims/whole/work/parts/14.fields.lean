/-! ===== fields, new, statics ===== -/
theorem ka_lay_in : ∀ ci, ci < 10 → ∀ w ∈ u_ws (ka_T ci).1 (ka_T ci).2.1 (ka_T ci).2.2, w ∈ lw_tbl := by decide +kernel
theorem ka_lay_ok : ∀ ci, ci < 10 → ∀ w ∈ u_ws (ka_T ci).1 (ka_T ci).2.1 (ka_T ci).2.2, (w.onTables && w.keepsFace) = true := by decide +kernel
def ka_tyk (t : FieldType) : Bool := match t with
  | .int => true
  | .boolean => true
  | .object _ => true
  | .array _ => true
  | _ => false
theorem ka_tyk_ok : ∀ ci, ci < 10 → ∀ k, k < (ka_T ci).2.2 → ka_tyk (ka_ty ci k) = true := by decide +kernel
theorem ka_lay {G : ka_G} {A0 args : Array Value} {s : State} {ci : Nat} (hZw : ka_Zw G A0) (hW : G.1.WarmedH s.vm) (hci : ci < 10) : ∀ w ∈ u_ws (ka_T ci).1 (ka_T ci).2.1 (ka_T ci).2.2, w.before args s = true :=
  fun w hw => ka_mv hW (ka_lay_ok ci hci w hw) (hZw w (ka_lay_in ci hci w hw))
section KC
variable {p : Program} {l : Launch} {e : Env} {R : Room} {s : State} {m : MethodId} {args : Array Value} {below : List Frame} {meth : Method} {c : Code} {Q : State → Prop} {G : ka_G} {n0 t0 pc : Nat} {L S : List Value} {h : ka_H} {cc : ByteArray} {A0 : Array Value}
theorem ka_ownO {h : ka_H} {H : Heap} {a : Nat} (hr : ka_rel G h H) (hk : (ka_K h a).1 < 10) : 1 ≤ a ∧ a < h.1 ∧ t_OB (ka_ad G a) (G.2.1.1 (ka_K h a).1) (ka_T (ka_K h a).1).2.2 (G.2.1.2 (ka_K h a).1) H (ka_fv G h (ka_K h a).1 a) := by
  obtain ⟨a1, a2⟩ := ka_ow hr (a := a) (by omega)
  exact ⟨a1, a2, (hr.2.2.2.2.1 a a1 a2).1 hk⟩
theorem kr_getf {x f a ci : Nat} {own : String} {v : Value} (hZw : ka_Zw G A0) (hZc : ka_Zc G) (hW : G.1.WarmedH s.vm) (hx : p.tables.exec = Jvm.exec) (hb : c.code = cc) (hd : decode cc pc = .ok (.getfield x, 3)) (hown : s.vm.findClass own = some m.cls) (hci : ci < 10) (hf : f < (ka_T ci).2.2)
    (hlink : (Cond.fieldLink own x ((ka_T ci).2.1 f).1 ((ka_T ci).2.1 f).2.1 ((ka_T ci).2.1 f).2.2.1).before args s = true) (hk : (ka_K h a).1 = ci) (hv : ka_cv G v = ka_fv G h ci a f)
    (k : ka_W G p l e R s m args below meth c Q n0 t0 (pc + 3) L (v :: S) h) : ka_W G p l e R s m args below meth c Q n0 t0 pc L (.ref a :: S) h := by
  intro q1 q2 H locs ls hr hz hl
  have k1 := k q1 q2 H locs ls hr hz hl
  subst hk
  obtain ⟨a1, a2, cell, o1, o2, o3, o4⟩ := ka_ownO hr hci
  obtain ⟨hSl, hfc, kC, hkC, hkind⟩ := u_Kn_moved hW.alike (hZc _ hci)
  obtain ⟨cf, kf, fi, fd, hi, hsl⟩ := hSl f hf
  rw [List.map_cons] at k1 ⊢
  rw [ka_cv_nz (by omega)]
  rw [hv] at k1
  exact W.getf hx hb hown hlink hi (u_facts (args := args) hfc hkC (u_lays (ka_lay hZw hW hci) (fun _ h => h) hf) hi).1 o1 (by rw [o3]; exact fun q => (by cases q)) (by rw [hsl]; exact o4 f hf) rfl rfl hd k1
theorem kr_putf {x f a ci : Nat} {own : String} {w : Value} {h' : ka_H} (hZw : ka_Zw G A0) (hZc : ka_Zc G) (hW : G.1.WarmedH s.vm) (hx : p.tables.exec = Jvm.exec) (hb : c.code = cc) (hd : decode cc pc = .ok (.putfield x, 3)) (hown : s.vm.findClass own = some m.cls) (hci : ci < 10) (hf : f < (ka_T ci).2.2)
    (hlink : (Cond.fieldLink own x ((ka_T ci).2.1 f).1 ((ka_T ci).2.1 f).2.1 ((ka_T ci).2.1 f).2.2.1).before args s = true) (hk : (ka_K h a).1 = ci)
    (hfin : ((ka_T ci).2.1 f).2.2.2 = false ∨ (((ka_T ci).2.1 f).2.2.2 = true ∧ meth.name = "<init>" ∧ ((ka_T ci).2.1 f).1 = own)) (hn : narrow (ka_ty ci f) (ka_cv G w) = ka_cv G w) (hfit : fits (ka_ty ci f) (ka_cv G w) = true)
    (en : h'.1 = h.1) (e2 : h'.2.1 = h.2.1) (eK : ∀ b, ka_K h' b = ka_K h b) (eI : ∀ b, b ≠ a → ∀ j, ka_I h' b j = ka_I h b j) (eP : ∀ b, b ≠ a → ∀ j, ka_P h' b j = ka_P h b j) (eJ : ∀ b, b ≠ a → ∀ j, ka_J h' b j = ka_J h b j) (efv : ∀ j, j < (ka_T ci).2.2 → updV (ka_fv G h ci a) f (ka_cv G w) j = ka_fv G h' ci a j)
    (k : ka_W G p l e R s m args below meth c Q n0 t0 (pc + 3) L S h') : ka_W G p l e R s m args below meth c Q n0 t0 pc L (w :: .ref a :: S) h := by
  intro q1 q2 H locs ls hr hz hl
  subst hk
  obtain ⟨a1, a2, cell, o1, o2, o3, o4⟩ := ka_ownO hr hci
  obtain ⟨hSl, hfc, kC, hkC, hkind⟩ := u_Kn_moved hW.alike (hZc _ hci)
  obtain ⟨cf, kf, fi, fd, hi, hsl⟩ := hSl f hf
  have hts := ka_lay (args := args) hZw hW hci
  have hst := (u_facts (args := args) hfc hkC (u_lays hts (fun _ h => h) hf) hi).1
  have hap : ∀ x y, x < (ka_T (ka_K h a).1).2.2 → y < (ka_T (ka_K h a).1).2.2 → x ≠ y → G.2.1.2 (ka_K h a).1 x ≠ G.2.1.2 (ka_K h a).1 y := by
    intro x y hx' hy' hne
    obtain ⟨_, _, _, fa, hia, ea⟩ := hSl x hx'
    obtain ⟨_, _, _, fb, hib, eb⟩ := hSl y hy'
    rw [← ea, ← eb]
    refine u_apart (u_lays hts (fun _ h => h) hx') (u_lays hts (fun _ h => h) hy') hia hib ?_
    rw [(State.fieldFound?_type hia (ka_ty_ok _ hci x hx')).1, (State.fieldFound?_type hib (ka_ty_ok _ hci y hy')).1]
    exact ka_nm_ok _ hci x hx' y hy' hne
  have hloc : ∀ z ∈ locs ++ [(⟨ka_ad G a, fd.slot⟩ : Loc)], ka_b G ≤ z.base := by
    intro z hz'
    rcases List.mem_append.mp hz' with h9 | h9
    · exact hz z h9
    · rw [List.mem_singleton.mp h9]
      show ka_b G ≤ ka_ad G a
      rw [ka_ad_own (by have := hr.2.2.1; omega)]
      omega
  have fin : ∀ H' : Heap, H'[ka_ad G a]? = some (cell.setSlot fd.slot (ka_cv G w)) → H'.size = H.size → (∀ q, q ≠ ka_ad G a → H'[q]? = H[q]?) → W p l e R s m args below meth c H' (locs ++ [⟨ka_ad G a, fd.slot⟩]) (h.1 - n0) (h.2.1 - t0) Q (F0 m (pc + 3) ls (S.map (ka_cv G))) := by
    intro H' g1 g2 g3
    have k1 := k (by rw [en]; exact q1) (by rw [e2]; exact q2) H' (locs ++ [⟨ka_ad G a, fd.slot⟩]) ls ?_ hloc hl
    · rw [en, e2] at k1
      exact k1
    · refine ka_upd hr en eK a1 a2 eI eP eJ g2 g3 ?_
      unfold ka_cell
      rw [eK]
      refine ⟨fun _ => ?_, fun q => (by omega), fun q => (by omega), fun q => (by omega), fun q => (by omega), Or.inl hci⟩
      rw [hsl] at g1
      exact t_OB.to (V := updV (ka_fv G h (ka_K h a).1 a) f (ka_cv G w)) ⟨_, g1, o2, o3, t_set o4 hap hf (ka_cv G w)⟩ efv
  rw [List.map_cons, List.map_cons, ka_cv_nz (by omega)]
  have hlay := hts _ (u_in_lay hf)
  unfold u_lay at hlay
  rcases hfin with hfin | ⟨hfin, hinit, hdecl⟩
  · rw [if_neg (by rw [hfin]; decide)] at hlay
    have h6 := u_store hfc hkC hkind hlay hi (ka_ty_ok _ hci f hf) hn hfit
    exact W.putK hx hb (f := fd) ⟨hown, hlink, ⟨_, _, _, hi⟩, hst⟩ (by rw [o2]; exact h6) o1 o3 (by rw [hsl]; exact k2_hasslot (o4 f hf)) rfl rfl hd fin
  · rw [if_pos hfin] at hlay
    have hcf : m.cls = cf := by
      obtain ⟨_, _, c', _, _, _, -, -, hf', -, -, -, hown2, -⟩ := Cond.laysFinal_spec hlay
      have e1 : c' = cf := by have := hi.symm.trans hf'; simp at this; exact this.1.symm
      rw [hdecl] at hown2
      rw [← e1]; exact Option.some.inj (hown.symm.trans hown2)
    have h6 := u_fits hfc hkC hkind (Or.inr hlay) hi (ka_ty_ok _ hci f hf) hn hfit
    exact W.putFinK hx hb hown hlink hi hst hcf hinit (by rw [o2]; exact h6) o1 o3 (by rw [hsl]; exact k2_hasslot (o4 f hf)) rfl rfl hd fin
theorem ka_new_K {h : ka_H} {kd sz sl b : Nat} (hb : b ≠ h.1) : ka_K (ka_new h kd sz sl) b = ka_K h b := if_neg hb
theorem ka_new_Ks {h : ka_H} {kd sz sl : Nat} : ka_K (ka_new h kd sz sl) h.1 = (kd, sz) := if_pos rfl
theorem ka_new_I {h : ka_H} {kd sz sl b : Nat} (hb : b ≠ h.1) (j : Nat) : ka_I (ka_new h kd sz sl) b j = ka_I h b j := congrFun (if_neg hb) j
theorem ka_new_P {h : ka_H} {kd sz sl b : Nat} (hb : b ≠ h.1) (j : Nat) : ka_P (ka_new h kd sz sl) b j = ka_P h b j := congrFun (if_neg hb) j
theorem ka_new_J {h : ka_H} {kd sz sl b : Nat} (hb : b ≠ h.1) (j : Nat) : ka_J (ka_new h kd sz sl) b j = ka_J h b j := congrFun (if_neg hb) j
theorem ka_new_Is {h : ka_H} {kd sz sl : Nat} (j : Nat) : ka_I (ka_new h kd sz sl) h.1 j = 0 := congrFun (if_pos rfl) j
theorem ka_new_Ps {h : ka_H} {kd sz sl : Nat} (j : Nat) : ka_P (ka_new h kd sz sl) h.1 j = 0 := congrFun (if_pos rfl) j
theorem ka_new_Js {h : ka_H} {kd sz sl : Nat} (j : Nat) : ka_J (ka_new h kd sz sl) h.1 j = 0 := congrFun (if_pos rfl) j
theorem kr_new {x ci : Nat} {own : String} (hZw : ka_Zw G A0) (hZc : ka_Zc G) (hW : G.1.WarmedH s.vm) (hx : p.tables.exec = Jvm.exec) (hb : c.code = cc) (hd : decode cc pc = .ok (.new x, 3)) (hown : s.vm.findClass own = some m.cls) (hci : ci < 10)
    (hlink : (Cond.classLink own x (ka_T ci).1).before args s = true) (hins : (Cond.instantiable (ka_T ci).1 (ka_T ci).2.2).before args s = true) (hini : (Cond.initialized (ka_T ci).1).before args s = true) (hlt : h.1 < 1000000)
    (hc9 : (h.1 - n0) + 1 ≤ R.cells) (hs9 : (h.2.1 - t0) + (ka_T ci).2.2 ≤ R.slots)
    (k : ka_W G p l e R s m args below meth c Q n0 t0 (pc + 3) L (.ref h.1 :: S) (ka_new h ci (ka_T ci).2.2 (ka_T ci).2.2)) : ka_W G p l e R s m args below meth c Q n0 t0 pc L S h := by
  intro q1 q2 H locs ls hr hz hl
  have hKn := u_Kn_moved hW.alike (hZc _ hci)
  obtain ⟨hSl, hfc, kC, hkC, hkind⟩ := id hKn
  refine W.newcK hx hb hown hlink hins hini rfl hd hc9 hs9 hfc rfl fun H' kC' g1 g2 g3 g4 => ?_
  have k1 := k (Nat.le_succ_of_le q1) (Nat.le_trans q2 (Nat.le_add_right _ _)) H' locs ls ?_ hz hl
  · rw [List.map_cons, ka_cv_nz (by have := hr.2.1; omega), ka_ad_new hr hlt] at k1
    have e1 : (ka_new h ci (ka_T ci).2.2 (ka_T ci).2.2).1 - n0 = h.1 - n0 + 1 := by show h.1 + 1 - n0 = _; omega
    have e2 : (ka_new h ci (ka_T ci).2.2 (ka_T ci).2.2).2.1 - t0 = h.2.1 - t0 + (ka_T ci).2.2 := by show h.2.1 + (ka_T ci).2.2 - t0 = _; omega
    rw [e1, e2] at k1
    exact k1
  · refine ka_push hr rfl hlt (fun b hb' => ka_new_K hb') (fun b hb' j => ka_new_I hb' j) (fun b hb' j => ka_new_P hb' j) (fun b hb' j => ka_new_J hb' j) g3 g4 ?_
    unfold ka_cell
    rw [ka_new_Ks]
    refine ⟨fun _ => ?_, fun q => (by simp at q; omega), fun q => (by simp at q; omega), fun q => (by simp at q; omega), fun q => (by simp at q; omega), Or.inl hci⟩
    rw [ka_ad_new hr hlt]
    refine t_OB.to (u_born (ka_ty ci) (ka_lay (args := args) hZw hW hci) (fun _ h => h) hKn g1 g2 (ka_ty_ok _ hci)) fun j hj => ?_
    have ht := ka_tyk_ok ci hci j hj
    unfold ka_fv
    rw [ka_new_Is, ka_new_Ps]
    cases hty : ka_ty ci j with
    | int => rfl
    | boolean => rfl
    | object n => rfl
    | array t => rfl
    | _ => rw [hty] at ht; cases ht
theorem ka_cellN {h : ka_H} {H' : Heap} {kd N : Nat} (hk : kd = 30 ∨ kd = 31 ∨ kd = 32 ∨ (34 ≤ kd ∧ kd ≤ 37)) (hc : H'[ka_ad G h.1]? = some (arrV (G.2.2.1 kd) N (fun _ => defaultValue (ka_aty kd)))) : ka_cell G (ka_new h kd N N) h.1 H' := by
  refine ka_cellA (by rw [ka_new_Ks]; exact hk) ?_
  rw [ka_new_Ks, hc]
  congr 2
  funext j
  rcases hk with rfl | rfl | rfl | hk
  · rw [ka_av_i j (by rw [ka_new_Ks]; simp), ka_new_Is]; rfl
  · rw [ka_av_i j (by rw [ka_new_Ks]; simp), ka_new_Is]; rfl
  · rw [ka_av_l j (by rw [ka_new_Ks]), ka_new_Js]; rfl
  · rw [ka_av_r j (by rw [ka_new_Ks]; exact ⟨hk.1, by omega⟩), ka_new_Ps]
    rcases (show kd = 34 ∨ kd = 35 ∨ kd = 36 ∨ kd = 37 by omega) with rfl | rfl | rfl | rfl <;> rfl
theorem kr_newa {t : ArrayType} {n : Int32} (hZa : ka_Za G) (hW : G.1.WarmedH s.vm) (hx : p.tables.exec = Jvm.exec) (hb : c.code = cc) (hd : decode cc pc = .ok (.newarray t, 2)) (ht : t = .int ∨ t = .boolean ∨ t = .long) (harr : (Cond.arrayClass (newarray.typeOf t)).before args s = true)
    (hn : ¬ n < 0) (hN : n.toNatClampNeg ≤ 100000) (hlt : h.1 < 1000000) (hc9 : (h.1 - n0) + 1 ≤ R.cells) (hs9 : (h.2.1 - t0) + n.toNatClampNeg ≤ R.slots)
    (k : ka_W G p l e R s m args below meth c Q n0 t0 (pc + 2) L (.ref h.1 :: S) (ka_new h (ka_at t) n.toNatClampNeg n.toNatClampNeg)) : ka_W G p l e R s m args below meth c Q n0 t0 pc L (.int n :: S) h := by
  intro q1 q2 H locs ls hr hz hl
  have hk : ka_at t = 30 ∨ ka_at t = 31 ∨ ka_at t = 32 ∨ (34 ≤ ka_at t ∧ ka_at t ≤ 37) := by rcases ht with rfl | rfl | rfl <;> decide
  have hty : ka_aty (ka_at t) = newarray.typeOf t := by rcases ht with rfl | rfl | rfl <;> rfl
  refine W.newa hx hb harr rfl hd rfl hn (by rcases ht with rfl | rfl | rfl <;> (show n.toNatClampNeg * _ ≤ _) <;> simp only [newarray.typeOf, componentBytes] <;> omega) hc9 hs9 fun cA kA comp g1 g2 g3 => ?_
  obtain ⟨kA', comp', z1, z2, z3, -⟩ := hZa (ka_at t) (by rcases ht with rfl | rfl | rfl <;> decide)
  have hcA : cA = G.2.2.1 (ka_at t) := by
    rw [hty] at z1
    rw [hW.alike.findClass] at g1
    exact Option.some.inj (g1.symm.trans z1)
  subst hcA
  rw [arrV_new]
  have k1 := k (Nat.le_succ_of_le q1) (Nat.le_trans q2 (Nat.le_add_right _ _)) (H.push (arrV (G.2.2.1 (ka_at t)) n.toNatClampNeg (fun _ => defaultValue (newarray.typeOf t)))) locs ls ?_ hz hl
  · rw [List.map_cons, ka_cv_nz (by have := hr.2.1; omega), ka_ad_new hr hlt] at k1
    have e1 : (ka_new h (ka_at t) n.toNatClampNeg n.toNatClampNeg).1 - n0 = h.1 - n0 + 1 := by show h.1 + 1 - n0 = _; omega
    have e2 : (ka_new h (ka_at t) n.toNatClampNeg n.toNatClampNeg).2.1 - t0 = h.2.1 - t0 + n.toNatClampNeg := by show h.2.1 + n.toNatClampNeg - t0 = _; omega
    rw [e1, e2] at k1
    exact k1
  · refine ka_push hr rfl hlt (fun b hb' => ka_new_K hb') (fun b hb' j => ka_new_I hb' j) (fun b hb' j => ka_new_P hb' j) (fun b hb' j => ka_new_J hb' j) (Array.size_push _) (fun q hq => by rw [Array.getElem?_push, if_neg (Nat.ne_of_lt hq)]) (ka_cellN hk ?_)
    rw [ka_ad_new hr hlt, Array.getElem?_push_size, hty]
theorem kr_anew {x ci : Nat} {n : Int32} {own : String} (hZa : ka_Za G) (hW : G.1.WarmedH s.vm) (hx : p.tables.exec = Jvm.exec) (hb : c.code = cc) (hd : decode cc pc = .ok (.anewarray x, 3)) (hown : s.vm.findClass own = some m.cls) (hci : 3 ≤ ci ∧ ci ≤ 5) (hlink : (Cond.classLink own x (ka_T ci).1).before args s = true) (hover : (Cond.arrayOver (.object (ka_T ci).1)).before args s = true)
    (hn : ¬ n < 0) (hN : n.toNatClampNeg ≤ 100000) (hlt : h.1 < 1000000) (hc9 : (h.1 - n0) + 1 ≤ R.cells) (hs9 : (h.2.1 - t0) + n.toNatClampNeg ≤ R.slots)
    (k : ka_W G p l e R s m args below meth c Q n0 t0 (pc + 3) L (.ref h.1 :: S) (ka_new h (39 - ci) n.toNatClampNeg n.toNatClampNeg)) : ka_W G p l e R s m args below meth c Q n0 t0 pc L (.int n :: S) h := by
  intro q1 q2 H locs ls hr hz hl
  have hk : 39 - ci = 30 ∨ 39 - ci = 31 ∨ 39 - ci = 32 ∨ (34 ≤ 39 - ci ∧ 39 - ci ≤ 37) := by omega
  have hty : ka_aty (39 - ci) = .object (ka_T ci).1 := by rcases (show ci = 3 ∨ ci = 4 ∨ ci = 5 by omega) with rfl | rfl | rfl <;> rfl
  refine W.anew hx hb hown hlink hover rfl hd rfl hn (by omega) hc9 hs9 fun cA kA comp g1 g2 g3 g4 => ?_
  obtain ⟨kA', comp', z1, z2, z3, -⟩ := hZa (39 - ci) (by omega)
  have hcA : cA = G.2.2.1 (39 - ci) := by
    rw [hty] at z1
    rw [hW.alike.findClass] at g1
    exact Option.some.inj (g1.symm.trans z1)
  subst hcA
  rw [arrV_new]
  have k1 := k (Nat.le_succ_of_le q1) (Nat.le_trans q2 (Nat.le_add_right _ _)) (H.push (arrV (G.2.2.1 (39 - ci)) n.toNatClampNeg (fun _ => .null))) locs ls ?_ hz hl
  · rw [List.map_cons, ka_cv_nz (by have := hr.2.1; omega), ka_ad_new hr hlt] at k1
    have e1 : (ka_new h (39 - ci) n.toNatClampNeg n.toNatClampNeg).1 - n0 = h.1 - n0 + 1 := by show h.1 + 1 - n0 = _; omega
    have e2 : (ka_new h (39 - ci) n.toNatClampNeg n.toNatClampNeg).2.1 - t0 = h.2.1 - t0 + n.toNatClampNeg := by show h.2.1 + n.toNatClampNeg - t0 = _; omega
    rw [e1, e2] at k1
    exact k1
  · refine ka_push hr rfl hlt (fun b hb' => ka_new_K hb') (fun b hb' j => ka_new_I hb' j) (fun b hb' j => ka_new_P hb' j) (fun b hb' j => ka_new_J hb' j) (Array.size_push _) (fun q hq => by rw [Array.getElem?_push, if_neg (Nat.ne_of_lt hq)]) (ka_cellN hk ?_)
    rw [ka_ad_new hr hlt, Array.getElem?_push_size, hty]
    rfl
end KC
