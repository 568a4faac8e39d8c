/-! ===== reads, writes, makings: the small heap beside the machine's ===== -/
def ka_aty : Nat → FieldType
  | 31 => .boolean | 32 => .long | 33 => .byte | 34 => .object RX7 | 35 => .object RX6 | 36 => .object RX5 | 37 => .array .int | 38 => .object "KeptAnswers$Op" | _ => .int
def ka_Zw (G : ka_G) (A0 : Array Value) : Prop := ∀ w ∈ lw_tbl, w.before A0 G.1 = true
def ka_Zc (G : ka_G) : Prop := ∀ ci, ci < 10 → u_Kn G.1 (ka_T ci).1 (ka_T ci).2.1 (ka_T ci).2.2 (G.2.1.1 ci) (G.2.1.2 ci)
def ka_Za (G : ka_G) : Prop := ∀ kd, (30 ≤ kd ∧ kd ≤ 32 ∨ 34 ≤ kd ∧ kd ≤ 37) → ∃ (kA : Class) (comp : ClassId), G.1.vm.findClass ("[" ++ (ka_aty kd).toString) = some (G.2.2.1 kd) ∧ G.1.vm.classes[G.2.2.1 kd]? = some kA ∧ kA.kind = .array comp (ka_aty kd) ∧ (34 ≤ kd ∧ kd ≤ 36 → G.1.vm.findClass (ka_T (39 - kd)).1 = some comp)
def ka_Zs (G : ka_G) : Prop := (∀ i, i < 93 → G.2.2.2.1 i < ka_b G) ∧ (∀ i j, i < 14 → j < 14 → G.2.2.2.1 i = G.2.2.2.1 j → i = j) ∧
  ∀ i, ((ka_sK G i).1 = 33 ∨ (ka_sK G i).1 = 38 ∨ (ka_sK G i).1 = 40) → ∃ cell : Cell, G.1.heap[G.2.2.2.1 i]? = some cell ∧ G.1.isArrayOf cell (ka_aty (ka_sK G i).1) ∧ cell.vm ≠ .unknown ∧ ((ka_sK G i).2 ≤ cell.slots.size ∧ cell.slots.size.toInt32 = Int32.ofNat (ka_sK G i).2) ∧ ∀ j, j < (ka_sK G i).2 → cell.slots[j]? = some (if (ka_sK G i).1 = 38 then ka_cv G (.ref (ka_sRf i j)) else .int (ka_sIn G i j))
theorem ka_h_at {G : ka_G} {A0 args : Array Value} {s : State} {i : Nat} {w : Cond} (hZw : ka_Zw G A0) (hW : G.1.WarmedH s.vm) (h : ka_h i w = true) : w.before args s = true := by
  have h1 := (Bool.and_eq_true _ _).mp h
  exact ka_mv hW h1.2 (hZw w (List.mem_of_getElem? (of_decide_eq_true h1.1)))
theorem ka_arr {G : ka_G} {s : State} {kd : Nat} (hZ : ka_Za G) (hW : G.1.WarmedH s.vm) (hk : 30 ≤ kd ∧ kd ≤ 32 ∨ 34 ≤ kd ∧ kd ≤ 37) : ArrOfT s (G.2.2.1 kd) (ka_aty kd) := by
  obtain ⟨kA, comp, -, h2, h3, -⟩ := hZ kd hk
  exact arrOfT_moved hW.alike (fun n z => ⟨fun _ h => (by cases h), kA, h2, comp, h3⟩)
/-- what a place of an array holds -/
def ka_av (G : ka_G) (h : ka_H) (a j : Nat) : Value := if (ka_K h a).1 = 32 then .long (ka_J h a j) else if 34 ≤ (ka_K h a).1 ∧ (ka_K h a).1 ≤ 38 then ka_cv G (.ref (ka_P h a j)) else .int (ka_I h a j)
theorem ka_av_i {G : ka_G} {h : ka_H} {a : Nat} (j : Nat) (hk : (ka_K h a).1 < 32 ∨ (ka_K h a).1 = 33 ∨ (ka_K h a).1 = 40) : ka_av G h a j = .int (ka_I h a j) := by
  unfold ka_av; rw [if_neg (by omega), if_neg (by omega)]
theorem ka_av_l {G : ka_G} {h : ka_H} {a : Nat} (j : Nat) (hk : (ka_K h a).1 = 32) : ka_av G h a j = .long (ka_J h a j) := by
  unfold ka_av; rw [if_pos hk]
theorem ka_av_r {G : ka_G} {h : ka_H} {a : Nat} (j : Nat) (hk : 34 ≤ (ka_K h a).1 ∧ (ka_K h a).1 ≤ 38) : ka_av G h a j = ka_cv G (.ref (ka_P h a j)) := by
  unfold ka_av; rw [if_neg (by omega), if_pos hk]
theorem ka_sK_lt {G : ka_G} {i : Nat} (h : (ka_sK G i).1 ≠ 99) : i < 93 := by
  refine Classical.byContradiction fun hn => h ?_
  unfold ka_sK
  rw [if_neg (by omega), if_neg (by omega), if_neg (by omega), if_neg (by omega), if_neg (by omega), if_neg (by omega), if_neg (by omega), if_neg (by omega), if_neg (by omega)]
theorem ka_rd {G : ka_G} {s : State} {h : ka_H} {H : Heap} {a : Nat} (hZa : ka_Za G) (hZs : ka_Zs G) (hW : G.1.WarmedH s.vm) (hr : ka_rel G h H) (hk : 30 ≤ (ka_K h a).1 ∧ (ka_K h a).1 ≤ 40 ∧ (ka_K h a).1 ≠ 39) :
    a ≠ 0 ∧ ∃ cell : Cell, H[ka_ad G a]? = some cell ∧ s.isArrayOf cell (ka_aty (ka_K h a).1) ∧ cell.vm ≠ .unknown ∧ ((ka_K h a).2 ≤ cell.slots.size ∧ cell.slots.size.toInt32 = Int32.ofNat (ka_K h a).2) ∧ ∀ j, j < (ka_K h a).2 → cell.slots[j]? = some (ka_av G h a j) := by
  obtain ⟨r1, r2, r3, r4, r5, r6, r7⟩ := hr
  have ha0 : a ≠ 0 := fun q => by have := r6 a (Or.inl q); omega
  refine ⟨ha0, ?_⟩
  by_cases h1 : a < 1000000
  · have hlt : a < h.1 := by
      refine Classical.byContradiction fun hn => ?_
      have := r6 a (Or.inr ⟨by omega, h1⟩)
      omega
    obtain ⟨c1, c2, c3, c4, c5, c6⟩ := r5 a (by omega) hlt
    have hk2 : 30 ≤ (ka_K h a).1 ∧ (ka_K h a).1 ≤ 32 ∨ 34 ≤ (ka_K h a).1 ∧ (ka_K h a).1 ≤ 37 := by omega
    have key : ∀ z : Nat → Value, (∀ j, z j = ka_av G h a j) → H[ka_ad G a]? = some (arrV (G.2.2.1 (ka_K h a).1) (ka_K h a).2 z) → ∃ cell : Cell, H[ka_ad G a]? = some cell ∧ s.isArrayOf cell (ka_aty (ka_K h a).1) ∧ cell.vm ≠ .unknown ∧ ((ka_K h a).2 ≤ cell.slots.size ∧ cell.slots.size.toInt32 = Int32.ofNat (ka_K h a).2) ∧ ∀ j, j < (ka_K h a).2 → cell.slots[j]? = some (ka_av G h a j) := by
      intro z hz hc
      exact ⟨_, hc, ka_arr hZa hW hk2 _ _, fun q => (by cases q), ⟨Nat.le_of_eq (arrV_size _ _ _).symm, by rw [arrV_size]⟩, fun j hj => by rw [arrV_read _ _ hj, hz]⟩
    rcases hk2 with hk2 | hk2
    · by_cases e : (ka_K h a).1 = 32
      · exact key _ (fun j => by unfold ka_av; rw [if_pos e]) (c3 e)
      · exact key _ (fun j => by unfold ka_av; rw [if_neg e, if_neg (by omega)]) (c2 (by omega))
    · exact key _ (fun j => by unfold ka_av; rw [if_neg (by omega), if_pos (by omega)]) (c4 hk2)
  · obtain ⟨i, rfl⟩ : ∃ i, a = 1000000 + i := ⟨a - 1000000, by omega⟩
    have e1 := (r7 i).1
    have hk3 : (ka_sK G i).1 = 33 ∨ (ka_sK G i).1 = 38 ∨ (ka_sK G i).1 = 40 := by
      rw [e1] at hk
      unfold ka_sK at hk ⊢
      repeat' split at hk
      all_goals simp at hk
      all_goals simp [*]
    obtain ⟨cell, q1, q2, q3, q4, q5⟩ := hZs.2.2 i hk3
    have ead : ka_ad G (1000000 + i) = G.2.2.2.1 i := by
      unfold ka_ad; rw [if_neg h1, Nat.add_sub_cancel_left]
    have hb : G.2.2.2.1 i < ka_b G := hZs.1 i (ka_sK_lt (by rcases hk3 with k | k | k <;> rw [k] <;> decide))
    refine ⟨cell, by rw [ead, r4 _ hb]; exact q1, by rw [e1]; exact State.isArrayOf_alike hW.alike q2, q3, by rw [e1]; exact q4, fun j hj => ?_⟩
    rw [e1] at hj
    rw [q5 j hj]
    unfold ka_av
    rw [e1, (r7 i).2 j |>.1, (r7 i).2 j |>.2]
    rcases hk3 with k | k | k
    · rw [if_neg (by omega), if_neg (by omega), if_neg (by omega)]
    · rw [if_pos k, if_neg (by omega), if_pos (by omega)]
    · rw [if_neg (by omega), if_neg (by omega), if_neg (by omega)]
theorem ka_uS {α : Type} (f : Nat → Nat → α) (a k : Nat) (v : α) : ka_u f a k v a k = v := by unfold ka_u; rw [if_pos rfl, if_pos rfl]
theorem ka_uN {α : Type} (f : Nat → Nat → α) (a k : Nat) (v : α) {b : Nat} (h : b ≠ a) (j : Nat) : ka_u f a k v b j = f b j := by unfold ka_u; rw [if_neg h]
theorem ka_uJ {α : Type} (f : Nat → Nat → α) (a k : Nat) (v : α) (b : Nat) {j : Nat} (h : j ≠ k) : ka_u f a k v b j = f b j := by
  unfold ka_u
  by_cases e : b = a
  · rw [if_pos e, if_neg h]
  · rw [if_neg e]
section KB
variable {p : Program} {l : Launch} {e : Env} {R : Room} {s : State} {m : MethodId} {args : Array Value} {below : List Frame} {meth : Method} {c : Code} {Q : State → Prop} {G : ka_G} {n0 t0 pc : Nat} {L S : List Value} {h : ka_H} {cc : ByteArray}
theorem kr_ald {i : Instr} {a : Nat} {j : Int32} {v : Value} (hZa : ka_Za G) (hZs : ka_Zs G) (hW : G.1.WarmedH s.vm) (hx : p.tables.exec = Jvm.exec) (hb : c.code = cc) (hd : decode cc pc = .ok (i, 1))
    (hi : (i = .iaload ∧ ((ka_K h a).1 = 30 ∨ (ka_K h a).1 = 40) ∧ v = .int (ka_I h a j.toNatClampNeg)) ∨ (i = .baload ∧ ((ka_K h a).1 = 31 ∨ (ka_K h a).1 = 33) ∧ v = .int (ka_I h a j.toNatClampNeg)) ∨ (i = .laload ∧ (ka_K h a).1 = 32 ∧ v = .long (ka_J h a j.toNatClampNeg)) ∨ (i = .aaload ∧ (34 ≤ (ka_K h a).1 ∧ (ka_K h a).1 ≤ 38) ∧ v = .ref (ka_P h a j.toNatClampNeg)))
    (hin : vp_in j (ka_K h a).2) (k : ka_W G p l e R s m args below meth c Q n0 t0 (pc + 1) L (v :: S) h) : ka_W G p l e R s m args below meth c Q n0 t0 pc L (.int j :: .ref a :: S) h := by
  intro q1 q2 H locs ls hr hz hl
  have k1 := k q1 q2 H locs ls hr hz hl
  obtain ⟨a0, cell, r1, r2, r3, r4, r5⟩ := ka_rd (s := s) (a := a) hZa hZs hW hr (by rcases hi with ⟨-, z, -⟩ | ⟨-, z, -⟩ | ⟨-, z, -⟩ | ⟨-, z, -⟩ <;> omega)
  have hlt : j.toNatClampNeg < (ka_K h a).2 := Nat.not_le.mp fun q => hin (Or.inr q)
  have hv := r5 _ hlt
  have hin' : ¬ (j < 0 ∨ cell.slots.size ≤ j.toNatClampNeg) := fun q => hin (q.imp_right (Nat.le_trans r4.1))
  rw [List.map_cons] at k1 ⊢
  rw [List.map_cons, ka_cv_nz a0]
  rcases hi with ⟨rfl, z, rfl⟩ | ⟨rfl, z, rfl⟩ | ⟨rfl, z, rfl⟩ | ⟨rfl, z, rfl⟩
  · have e1 : ka_av G h a j.toNatClampNeg = .int (ka_I h a j.toNatClampNeg) := by unfold ka_av; rw [if_neg (by omega), if_neg (by omega)]
    have e2 : ka_aty (ka_K h a).1 = .int := by rcases z with z | z <;> rw [z] <;> rfl
    rw [e1] at hv; rw [e2] at r2
    exact W.iald hx hb r1 r2 r3 hin' hv rfl rfl hd k1
  · have e1 : ka_av G h a j.toNatClampNeg = .int (ka_I h a j.toNatClampNeg) := by unfold ka_av; rw [if_neg (by omega), if_neg (by omega)]
    rw [e1] at hv
    rcases z with z | z
    · rw [show ka_aty (ka_K h a).1 = .boolean by rw [z]; rfl] at r2
      exact W.zald hx hb r1 r2 r3 hin' hv rfl rfl hd k1
    · rw [show ka_aty (ka_K h a).1 = .byte by rw [z]; rfl] at r2
      exact W.bald hx hb r1 r2 r3 hin' hv rfl rfl hd k1
  · have e1 : ka_av G h a j.toNatClampNeg = .long (ka_J h a j.toNatClampNeg) := by unfold ka_av; rw [if_pos z]
    rw [e1] at hv; rw [show ka_aty (ka_K h a).1 = .long by rw [z]; rfl] at r2
    exact W.lald hx hb r1 r2 r3 hin' hv rfl rfl hd k1
  · have e1 : ka_av G h a j.toNatClampNeg = ka_cv G (.ref (ka_P h a j.toNatClampNeg)) := by unfold ka_av; rw [if_neg (by omega), if_pos z]
    rw [e1] at hv
    have e2 : (ka_aty (ka_K h a).1).isReference = true := by
      rcases (show (ka_K h a).1 = 34 ∨ (ka_K h a).1 = 35 ∨ (ka_K h a).1 = 36 ∨ (ka_K h a).1 = 37 ∨ (ka_K h a).1 = 38 by omega) with z | z | z | z | z <;> rw [z] <;> rfl
    exact W.aald hx hb r1 r2 e2 r3 hin' hv rfl rfl hd k1
theorem kr_alen {a : Nat} (hZa : ka_Za G) (hZs : ka_Zs G) (hW : G.1.WarmedH s.vm) (hx : p.tables.exec = Jvm.exec) (hb : c.code = cc) (hd : decode cc pc = .ok (.arraylength, 1)) (hk : 30 ≤ (ka_K h a).1 ∧ (ka_K h a).1 ≤ 40) (hk2 : (ka_K h a).1 ≠ 39)
    (k : ka_W G p l e R s m args below meth c Q n0 t0 (pc + 1) L (.int (Int32.ofNat (ka_K h a).2) :: S) h) : ka_W G p l e R s m args below meth c Q n0 t0 pc L (.ref a :: S) h := by
  intro q1 q2 H locs ls hr hz hl
  have k1 := k q1 q2 H locs ls hr hz hl
  obtain ⟨a0, cell, r1, r2, r3, r4, r5⟩ := ka_rd (s := s) (a := a) hZa hZs hW hr ⟨hk.1, hk.2, hk2⟩
  rw [List.map_cons, ka_cv_nz a0]
  exact W.alen hx hb r1 r2 r4.2 rfl rfl hd k1
/-- an own cell's array, of its kind -/
theorem ka_ownA {H : Heap} {a : Nat} (hr : ka_rel G h H) (hk : (ka_K h a).1 = 30 ∨ (ka_K h a).1 = 31 ∨ (ka_K h a).1 = 32 ∨ (34 ≤ (ka_K h a).1 ∧ (ka_K h a).1 ≤ 37)) : 1 ≤ a ∧ a < h.1 ∧ H[ka_ad G a]? = some (arrV (G.2.2.1 (ka_K h a).1) (ka_K h a).2 (ka_av G h a)) := by
  obtain ⟨a1, a2⟩ := ka_ow hr (a := a) (by omega)
  obtain ⟨c1, c2, c3, c4, c5, c6⟩ := hr.2.2.2.2.1 a a1 a2
  refine ⟨a1, a2, ?_⟩
  rcases hk with z | z | z | z
  · rw [c2 (Or.inl z), show ka_av G h a = fun j => Value.int (ka_I h a j) by funext j; unfold ka_av; rw [if_neg (by omega), if_neg (by omega)]]
  · rw [c2 (Or.inr z), show ka_av G h a = fun j => Value.int (ka_I h a j) by funext j; unfold ka_av; rw [if_neg (by omega), if_neg (by omega)]]
  · rw [c3 z, show ka_av G h a = fun j => Value.long (ka_J h a j) by funext j; unfold ka_av; rw [if_pos z]]
  · rw [c4 z, show ka_av G h a = fun j => ka_cv G (.ref (ka_P h a j)) by funext j; unfold ka_av; rw [if_neg (by omega), if_pos (by omega)]]
/-- a cell is an array of its kind, with these contents -/
theorem ka_cellA {h : ka_H} {H : Heap} {a : Nat} (hk : (ka_K h a).1 = 30 ∨ (ka_K h a).1 = 31 ∨ (ka_K h a).1 = 32 ∨ (34 ≤ (ka_K h a).1 ∧ (ka_K h a).1 ≤ 37)) (hc : H[ka_ad G a]? = some (arrV (G.2.2.1 (ka_K h a).1) (ka_K h a).2 (ka_av G h a))) : ka_cell G h a H := by
  refine ⟨fun q => (by omega), fun q => ?_, fun q => ?_, fun q => ?_, fun q => (by omega), by omega⟩
  · rw [hc, show ka_av G h a = fun j => Value.int (ka_I h a j) by funext j; unfold ka_av; rw [if_neg (by omega), if_neg (by omega)]]
  · rw [hc, show ka_av G h a = fun j => Value.long (ka_J h a j) by funext j; unfold ka_av; rw [if_pos q]]
  · rw [hc, show ka_av G h a = fun j => ka_cv G (.ref (ka_P h a j)) by funext j; unfold ka_av; rw [if_neg (by omega), if_pos (by omega)]]
/-- an array's place is written -/
theorem ka_relA {h h' : ka_H} {H H' : Heap} {a j : Nat} {w : Value} (hr : ka_rel G h H) (hk : (ka_K h a).1 = 30 ∨ (ka_K h a).1 = 31 ∨ (ka_K h a).1 = 32 ∨ (34 ≤ (ka_K h a).1 ∧ (ka_K h a).1 ≤ 37))
    (hn : h'.1 = h.1) (hK : ∀ b, ka_K h' b = ka_K h b) (hI : ∀ b, b ≠ a → ∀ j, ka_I h' b j = ka_I h b j) (hP : ∀ b, b ≠ a → ∀ j, ka_P h' b j = ka_P h b j) (hJ : ∀ b, b ≠ a → ∀ j, ka_J h' b j = ka_J h b j)
    (hav : ∀ i, ka_av G h' a i = updV (ka_av G h a) j w i) (hs : H'.size = H.size) (ho : ∀ q, q ≠ ka_ad G a → H'[q]? = H[q]?) (hc : H'[ka_ad G a]? = some ((arrV (G.2.2.1 (ka_K h a).1) (ka_K h a).2 (ka_av G h a)).setSlot j w)) : ka_rel G h' H' := by
  obtain ⟨a1, a2, -⟩ := ka_ownA hr hk
  refine ka_upd hr hn hK a1 a2 hI hP hJ hs ho (ka_cellA (by rw [hK]; exact hk) ?_)
  rw [hc, arrV_store, hK]
  congr 2
  funext i
  exact (hav i).symm
theorem kr_ast {i : Instr} {a : Nat} {j : Int32} {w : Value} {h' : ka_H} (hZa : ka_Za G) (hW : G.1.WarmedH s.vm) (hx : p.tables.exec = Jvm.exec) (hb : c.code = cc) (hd : decode cc pc = .ok (i, 1))
    (hi : (∃ v, i = .iastore ∧ (ka_K h a).1 = 30 ∧ w = .int v ∧ h' = ka_sI h a j.toNatClampNeg v) ∨ (∃ v, i = .bastore ∧ (ka_K h a).1 = 31 ∧ (v = 0 ∨ v = 1) ∧ w = .int v ∧ h' = ka_sI h a j.toNatClampNeg v) ∨ (∃ v, i = .lastore ∧ (ka_K h a).1 = 32 ∧ w = .long v ∧ h' = ka_sJ h a j.toNatClampNeg v))
    (hin : vp_in j (ka_K h a).2) (k : ka_W G p l e R s m args below meth c Q n0 t0 (pc + 1) L S h') : ka_W G p l e R s m args below meth c Q n0 t0 pc L (w :: .int j :: .ref a :: S) h := by
  intro q1 q2 H locs ls hr hz hl
  have hk : (ka_K h a).1 = 30 ∨ (ka_K h a).1 = 31 ∨ (ka_K h a).1 = 32 ∨ (34 ≤ (ka_K h a).1 ∧ (ka_K h a).1 ≤ 37) := by
    rcases hi with ⟨v, -, z, -⟩ | ⟨v, -, z, -⟩ | ⟨v, -, z, -⟩ <;> omega
  obtain ⟨a1, a2, hc⟩ := ka_ownA hr hk
  have harr : ArrOfT s (G.2.2.1 (ka_K h a).1) (ka_aty (ka_K h a).1) := ka_arr hZa hW (by omega)
  have hin' : ¬ (j < 0 ∨ (arrV (G.2.2.1 (ka_K h a).1) (ka_K h a).2 (ka_av G h a)).slots.size ≤ j.toNatClampNeg) := by rw [arrV_size]; exact hin
  have hloc : ∀ z ∈ locs ++ [(⟨ka_ad G a, j.toNatClampNeg⟩ : Loc)], ka_b G ≤ z.base := by
    intro z hz'
    rcases List.mem_append.mp hz' with h9 | h9
    · exact hz z h9
    · rw [List.mem_singleton.mp h9]
      show ka_b G ≤ ka_ad G a
      rw [ka_ad_own (by have := hr.2.2.1; omega)]
      omega
  rw [List.map_cons, List.map_cons, List.map_cons, ka_cv_nz (by omega)]
  rcases hi with ⟨v, rfl, z, rfl, rfl⟩ | ⟨v, rfl, z, h01, rfl, rfl⟩ | ⟨v, rfl, z, rfl, rfl⟩
  · rw [show ka_aty (ka_K h a).1 = .int by rw [z]; rfl] at harr
    refine W.iast hx hb hc (harr _ _) (fun q => (by cases q)) hin' rfl rfl hd fun H' g1 g2 g3 => ?_
    refine k q1 q2 H' _ ls (ka_relA hr hk rfl (fun _ => rfl) (fun b hb' i => ka_uN _ _ _ _ hb' i) (fun _ _ _ => rfl) (fun _ _ _ => rfl) (fun i => ?_) g2 g3 g1) hloc hl
    rw [ka_av_i (h := ka_sI h a j.toNatClampNeg v) i (Or.inl (by rw [show ka_K (ka_sI h a j.toNatClampNeg v) a = ka_K h a from rfl]; omega))]
    unfold updV
    by_cases ei : i = j.toNatClampNeg
    · rw [if_pos ei, ei]; exact congrArg Value.int (ka_uS _ _ _ _)
    · rw [if_neg ei, ka_av_i i (Or.inl (by omega))]; exact congrArg Value.int (ka_uJ _ _ _ _ _ ei)
  · rw [show ka_aty (ka_K h a).1 = .boolean by rw [z]; rfl] at harr
    refine W.zast hx hb hc (harr _ _) (fun q => (by cases q)) hin' rfl rfl hd fun H' g1 g2 g3 => ?_
    have en : narrow .boolean (.int v) = .int v := by rcases h01 with rfl | rfl <;> rfl
    rw [en] at g1
    refine k q1 q2 H' _ ls (ka_relA hr hk rfl (fun _ => rfl) (fun b hb' i => ka_uN _ _ _ _ hb' i) (fun _ _ _ => rfl) (fun _ _ _ => rfl) (fun i => ?_) g2 g3 g1) hloc hl
    rw [ka_av_i (h := ka_sI h a j.toNatClampNeg v) i (Or.inl (by rw [show ka_K (ka_sI h a j.toNatClampNeg v) a = ka_K h a from rfl]; omega))]
    unfold updV
    by_cases ei : i = j.toNatClampNeg
    · rw [if_pos ei, ei]; exact congrArg Value.int (ka_uS _ _ _ _)
    · rw [if_neg ei, ka_av_i i (Or.inl (by omega))]; exact congrArg Value.int (ka_uJ _ _ _ _ _ ei)
  · rw [show ka_aty (ka_K h a).1 = .long by rw [z]; rfl] at harr
    refine W.last hx hb hc (harr _ _) (fun q => (by cases q)) hin' rfl rfl hd fun H' g1 g2 g3 => ?_
    refine k q1 q2 H' _ ls (ka_relA hr hk rfl (fun _ => rfl) (fun _ _ _ => rfl) (fun _ _ _ => rfl) (fun b hb' i => ka_uN _ _ _ _ hb' i) (fun i => ?_) g2 g3 g1) hloc hl
    rw [ka_av_l (h := ka_sJ h a j.toNatClampNeg v) i z]
    unfold updV
    by_cases ei : i = j.toNatClampNeg
    · rw [if_pos ei, ei]; exact congrArg Value.long (ka_uS _ _ _ _)
    · rw [if_neg ei, ka_av_l i z]; exact congrArg Value.long (ka_uJ _ _ _ _ _ ei)
end KB
