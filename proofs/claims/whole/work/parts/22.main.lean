/-! ===== one instruction; a run; every method ===== -/
theorem ka_arrin : Cond.arrayOver (.object (ka_T 3).1) ∈ lw_tbl ∧ Cond.arrayOver (.object (ka_T 4).1) ∈ lw_tbl ∧ Cond.arrayOver (.object (ka_T 5).1) ∈ lw_tbl ∧ Cond.arrayOver (.array .int) ∈ lw_tbl ∧ Cond.arrayClass .int ∈ lw_tbl ∧ Cond.arrayClass .boolean ∈ lw_tbl ∧ Cond.arrayClass .long ∈ lw_tbl := by decide +kernel
theorem ka_AOA {t : FieldType} {u U : State} (hvm : u.vm.Alike U.vm) {A A' : Array Value} (h : (Cond.arrayOver (.array t)).before A u = true) : (Cond.arrayOver (.array t)).before A' U = true := by
  obtain ⟨comp, c, k, h1, h2, h3, h4, h5⟩ := arrayOverA_spec h
  obtain ⟨k', hk', he⟩ := hvm.2.2 _ _ h3
  have hi : (U.vm.classes.findIdx? fun (x : Class) => match x.kind with | .array component _ => component == comp | _ => false) = some c := by
    have e1 := va_idx_bare U.vm comp
    have e2 := va_idx_bare u.vm comp
    first | rw [hvm.bare_eq] at e2 | rw [← hvm.bare_eq] at e2
    exact e1.symm.trans (e2.trans h2)
  have hkind : k'.kind = .array comp (.array t) := by rw [he]; exact h4
  have f1 : U.vm.findClass (FieldType.array t).toString = some comp := by rw [hvm.findClass]; exact h1
  have f2 : U.vm.findClass ("[" ++ (FieldType.array t).toString) = some c := by rw [hvm.findClass]; exact h5
  unfold Cond.before Cond.holds
  simp only [Cond.value]
  rw [f1, Option.bind_some]
  refine (congrArg (fun o : Option Nat => (o.bind (fun c => (U.vm.classes[c]?).map fun (k : Class) => match k.kind with | .array _ ty => decide (ty = FieldType.array t) && decide (U.vm.findClass ("[" ++ (FieldType.array t).toString) = some c) | _ => false) == some true)) hi).trans ?_
  simp [hk', hkind, f2]
section KT
variable {p : Program} {l : Launch} {e : Env} {R : Room} {s : State} {m : MethodId} {args : Array Value} {below : List Frame} {meth : Method} {c : Code} {Q : State → Prop} {G : ka_G} {A0 : Array Value} {mt n0 t0 pc d : Nat} {L S : List Value} {h : ka_H} {Rr : ka_R → ka_H → Prop} {k : ka_C} {call : Nat → List Value → ka_H → ka_R → ka_H → Prop}
theorem ka_fv_upI {a ci f : Nat} {w : Int32} (ht : ka_isr (ka_ty ci f) = false) (j : Nat) : updV (ka_fv G h ci a) f (.int w) j = ka_fv G (ka_sI h a f w) ci a j := by
  unfold updV
  by_cases e : j = f
  · subst e
    rw [if_pos rfl]
    unfold ka_fv
    rw [if_neg (by rw [ht]; decide)]
    exact congrArg Value.int (ka_uS _ _ _ _).symm
  · rw [if_neg e]
    unfold ka_fv
    rw [show ka_I (ka_sI h a f w) a j = ka_I h a j from ka_uJ _ _ _ _ _ e]
    rfl
theorem ka_fv_upP {a ci f w : Nat} (ht : ka_isr (ka_ty ci f) = true) (j : Nat) : updV (ka_fv G h ci a) f (ka_cv G (.ref w)) j = ka_fv G (ka_sP h a f w) ci a j := by
  unfold updV
  by_cases e : j = f
  · subst e
    rw [if_pos rfl]
    unfold ka_fv
    rw [if_pos ht]
    rw [show ka_P (ka_sP h a j w) a j = w from ka_uS _ _ _ _]
  · rw [if_neg e]
    unfold ka_fv
    rw [show ka_P (ka_sP h a f w) a j = ka_P h a j from ka_uJ _ _ _ _ _ e]
    rfl
theorem ka_fit_ref {t : FieldType} (ht : ka_isr t = true) (w : Nat) : narrow t (ka_cv G (.ref w)) = ka_cv G (.ref w) ∧ fits t (ka_cv G (.ref w)) = true := by
  rcases ka_cv_ref G w with ⟨-, e1⟩ | ⟨-, e1⟩ <;> rw [e1] <;> cases t <;> first | (cases ht; done) | exact ⟨rfl, rfl⟩
/-- throw new E("..") -/
theorem ka_throw (hF : ka_F G A0 l p s m meth c mt n0) (hE : ka_ends G p l e R s m args below meth c Q n0 t0 mt Rr) (hKr : ∀ r h1, Rr r h1 → h1.1 - n0 ≤ R.cells ∧ h1.2.1 - t0 ≤ R.slots) (hR : d + 13 ≤ R.frames ∧ 60 * d + 460 ≤ R.locals) (hL : L.length = ka_mx mt) {x ex : Nat} (hd : decode (ka_by mt) pc = .ok (.new x, 3)) (hck : ka_ckx mt (ka_own mt) x ex pc = true)
    (hcat : ka_cat S) (hlt : h.1 < 1000000) (hst : Rr (.inr (ex, h.1)) (ka_new h (50 + ex) 6 6)) : ka_W G p l e R s m args below meth c Q n0 t0 pc L S h := by
  intro q1 q2 H locs ls hr hz hl
  have hk9 := hKr _ _ hst
  have hc9 : h.1 + 1 - n0 ≤ R.cells := hk9.1
  have hs9 : h.2.1 + 6 - t0 ≤ R.slots := hk9.2
  obtain ⟨⟨hZw, hZc, hZa, hZs, hZo, hZg, hZt, hZx, hZq, hltr, hZn, hov⟩, hx, hb, hml, hown, hW, htab, hlocks, hname, hsz, hold, hckh, hrow⟩ := hF
  obtain ⟨Qc, XC, mc, ms, rfl, hXC, hc1, hc2⟩ := hE.2 _ _ _ hst
  have hc1' : h.1 + 1 - n0 ≤ mc := hc1
  have hc2' : h.2.1 + 6 - t0 ≤ ms := hc2
  simp only [ka_ckx, Bool.and_eq_true, Bool.or_eq_true, decide_eq_true_eq, List.any_eq_true] at hck
  obtain ⟨⟨⟨⟨k1, k2⟩, k3⟩, k4⟩, q, hq, hqe, tx, htx, hdec⟩ := hck
  rw [k1] at hown k3
  have hown' : s.vm.findClass "KeptAnswers" = some m.cls := hown
  obtain ⟨sa, hsa⟩ := hZx tx htx
  have hout : ∀ (pc' : Nat), ∀ y ∈ c.exceptionTable.toList, covers y pc' = false := by
    intro pc' y hy
    rw [htab, k2] at hy
    exact nomatch hy
  have hex4 : ex < 4 := by
    rw [← hqe]
    simp only [ka_exl, List.mem_cons, List.not_mem_nil, or_false] at hq
    rcases hq with rfl | rfl | rfl | rfl <;> decide
  have hk : (Cond.classLink "KeptAnswers" x (ka_en ex)).before args s = true := ka_h_at hZw hW k3
  have hini : (Cond.initialized (ka_en ex)).before args s = true := ka_mv hW rfl (hZw _ (ka_exin ex hex4).1)
  have hU : vx_Zq Bundle.tN "UNASSIGNED_STACK" Bundle.steD (ka_A G) s s.heap := vx_Zq.moved hW.alike (hZq.1.kept (fun a _ ha => hold a (Nat.not_le.mp ha)))
  have hN : vx_Zq Bundle.tN "SUPPRESSED_SENTINEL" Bundle.listD (ka_A G) s s.heap := vx_Zq.moved hW.alike (hZq.2.kept (fun a _ ha => hold a (Nat.not_le.mp ha)))
  have hS9 : va_S (ka_A G) s.heap H locs := by
    refine ⟨by have := hr.1; omega, fun a ha1 ha2 => ?_, hz⟩
    rw [hr.2.2.2.1 a (Nat.not_le.mp ha2), hold a (Nat.not_le.mp ha2)]
  have hsize : ls.size = c.maxLocals := by rw [hl.1, hml, hL]
  have hcat9 := ka_cat_of hov hcat
  have hloc : ((S.map (ka_cv G)).map fun v => v.category).sum + 82 ≤ R.locals := by
    rw [List.map_map]
    have : (List.map ((fun v => v.category) ∘ ka_cv G) S).sum ≤ 8 := hcat9
    omega
  have hxx : ∀ (t : State) (ce : Cell), s.vm.Alike t.vm → t.heap.size = H.size + 1 → (∀ q : Nat, q < H.size → t.heap[q]? = H[q]?) → t.heap[H.size]? = some ce → ce.vm = .none → s.vm.findClass (ka_en ex) = some ce.cls → XC (ka_en ex) s t := by
    intro t ce h1 h2 h3 h4 h5 h6
    refine hXC t (ka_push hr rfl hlt (fun b hb' => ka_new_K hb') (fun b hb' j => ka_new_I hb' j) (fun b hb' j => ka_new_P hb' j) (fun b hb' j => ka_new_J hb' j) h2 h3 ?_)
    unfold ka_cell
    rw [ka_new_Ks]
    refine ⟨fun q => (by simp at q; omega), fun q => (by simp at q; omega), fun q => (by simp at q; omega), fun q => (by simp at q; omega), fun q => ⟨ce, by rw [ka_ad_new hr hlt]; exact h4, h5, ?_⟩, by simp; omega⟩
    rw [hW.alike.findClass] at h6
    rw [show (50 + ex, 6).1 - 50 = ex by simp]
    exact h6
  have hstr : vk_R "KeptAnswers" tx.1 tx.2 sa s := vk_R.warm hW hsa
  have good : ∀ w : Cond, (w.onTables && w.keepsFace) = true → vx_ot w = true := fun w hw => by
    simp only [Bool.and_eq_true] at hw
    simp [vx_ot, hw.1]
  by_cases e2 : ex = 2
  · subst e2
    rw [show (50 + 2) = 52 from rfl] at hst
    have hic : q.2 = 312 := by
      simp only [ka_exl, List.mem_cons, List.not_mem_nil, or_false] at hq
      rcases hq with rfl | rfl | rfl | rfl <;> first | rfl | (exfalso; revert hqe; decide)
    rw [hic] at hdec
    have hat : ∀ w ∈ kx_atN "KeptAnswers" 312, w.before args s = true := fun w hw => ka_mv hW (ka_exok2 w hw).2 (hZw w (ka_exok2 w hw).1)
    have hgood : ∀ w ∈ Cond.classLink "KeptAnswers" x kx_N :: Cond.initialized kx_N :: kx_atN "KeptAnswers" 312, vx_ot w = true := by
      intro w hw
      rcases List.mem_cons.mp hw with rfl | hw
      · rfl
      · rcases List.mem_cons.mp hw with rfl | hw
        · rfl
        · exact good w (ka_exok2 w hw).2
    rcases hdec with ⟨⟨⟨d3, d4⟩, d6⟩, d9⟩ | ⟨⟨d4, d7⟩, d10⟩
    · exact absurd rfl d3
    · exact kx_throwN hx hb hltr hown' hk hini hstr hat hgood hU hN hS9 hsize hd k4 d4 d7 d10 (hout _) (by omega) hloc (by omega) (by omega) hlocks hxx hz (by omega) (by omega)
  · have hat : ∀ w ∈ vx_atS "KeptAnswers" q.2 (ka_en ex) ka_names, w.before args s = true := fun w hw => by
      rw [← hqe] at hw e2
      exact ka_mv hW (ka_exok q hq e2 w hw).2 (hZw w (ka_exok q hq e2 w hw).1)
    have hgood : ∀ w ∈ Cond.classLink "KeptAnswers" x (ka_en ex) :: Cond.initialized (ka_en ex) :: vx_atS "KeptAnswers" q.2 (ka_en ex) ka_names, vx_ot w = true := by
      intro w hw
      rcases List.mem_cons.mp hw with rfl | hw
      · rfl
      · rcases List.mem_cons.mp hw with rfl | hw
        · rfl
        · rw [← hqe] at hw e2
          exact good w (ka_exok q hq e2 w hw).2
    have hfit : Bundle.fit (ka_en ex) = true := by rcases (show ex = 0 ∨ ex = 1 ∨ ex = 2 ∨ ex = 3 by omega) with rfl | rfl | rfl | rfl <;> decide
    have hnames : ∀ n ∈ ka_names, Bundle.fit n = true := by decide
    rcases hdec with ⟨⟨⟨-, d4⟩, d6⟩, d9⟩ | ⟨⟨d4, d7⟩, d10⟩
    · exact kx_throwS hx hb hltr hown' hfit hnames hk hini hstr hat hgood hU hN hS9 hsize hd k4 d4 d6 d9 (hout _) (by show 2 + 3 < _; omega) hloc (by omega) (by omega) hlocks hxx hz (by omega) (by omega)
    · exact kx_throwSW hx hb hltr hown' hfit hnames hk hini hstr hat hgood hU hN hS9 hsize hd k4 d4 d7 d10 (hout _) (by show 2 + 3 < _; omega) hloc (by omega) (by omega) hlocks hxx hz (by omega) (by omega)
set_option maxHeartbeats 4000000 in
theorem ka_step_snd (hF : ka_F G A0 l p s m meth c mt n0) (hE : ka_ends G p l e R s m args below meth c Q n0 t0 mt Rr) (hKk : ka_Kk G p l e R s m args below meth c Q n0 t0 mt k) (hKc : ka_Kc G l d call) (hKw : ka_Kw) (hKr : ∀ r h1, Rr r h1 → h1.1 - n0 ≤ R.cells ∧ h1.2.1 - t0 ≤ R.slots) (hR : d + 13 ≤ R.frames ∧ 60 * d + 460 ≤ R.locals) (hL : L.length = ka_mx mt)
    {i : Instr} {len : Nat} {ts : List Nat} (hcd : ka_cd mt pc = some (i, len, ts)) (hst : ka_step (ka_lk (ka_own mt)) call (ka_hs mt) (ka_rt mt) i pc len ts L S h k Rr) : ka_W G p l e R s m args below meth c Q n0 t0 pc L S h := by
  have hF' := hF
  obtain ⟨⟨hZw, hZc, hZa, hZs, hZo, hZg, hZt, hZx, hZq, hlt, hZn, hov⟩, hx, hb, hml, hown, hW, htab, hlocks, hname, hsz, hold, hckh, hrow⟩ := hF
  have hck := hrow pc i len ts hcd
  have hmlL : c.maxLocals = L.length := by rw [hml, hL]
  cases i with
  | iconst n =>
    simp only [ka_ck, Bool.and_eq_true, decide_eq_true_eq] at hck
    obtain ⟨hd, rfl⟩ := hck
    exact kr_const hx hb hd (Or.inl ⟨n, rfl, rfl, rfl⟩) (hKk _ _ _ _ hst hL).2
  | bipush n =>
    simp only [ka_ck, Bool.and_eq_true, decide_eq_true_eq] at hck
    obtain ⟨hd, rfl, hn⟩ := hck
    exact kr_const hx hb hd (Or.inr (Or.inl ⟨n, rfl, rfl, hn⟩)) (hKk _ _ _ _ hst hL).2
  | sipush n =>
    simp only [ka_ck, Bool.and_eq_true, decide_eq_true_eq] at hck
    obtain ⟨hd, rfl, hn⟩ := hck
    exact kr_const hx hb hd (Or.inr (Or.inr ⟨n, rfl, rfl, hn⟩)) (hKk _ _ _ _ hst hL).2
  | aconst_null =>
    simp only [ka_ck, Bool.and_eq_true, decide_eq_true_eq] at hck
    obtain ⟨hd, rfl⟩ := hck
    exact kr_null hx hb hd (hKk _ _ _ _ hst hL).2
  | iload x =>
    simp only [ka_ck, Bool.and_eq_true, decide_eq_true_eq] at hck
    obtain ⟨hd, rfl⟩ := hck
    simp only [ka_step] at hst
    split at hst
    · exact kr_iload hx hb hd (by assumption) (hKk _ _ _ _ hst hL).2
    · exact hst.elim
  | iload_n x =>
    simp only [ka_ck, Bool.and_eq_true, decide_eq_true_eq] at hck
    obtain ⟨hd, rfl⟩ := hck
    simp only [ka_step] at hst
    split at hst
    · exact kr_iload_n hx hb hd (by assumption) (hKk _ _ _ _ hst hL).2
    · exact hst.elim
  | aload x =>
    simp only [ka_ck, Bool.and_eq_true, decide_eq_true_eq] at hck
    obtain ⟨hd, rfl⟩ := hck
    simp only [ka_step] at hst
    split at hst
    · exact kr_aload hx hb hd (by assumption) (hKk _ _ _ _ hst hL).2
    · exact hst.elim
  | aload_n x =>
    simp only [ka_ck, Bool.and_eq_true, decide_eq_true_eq] at hck
    obtain ⟨hd, rfl⟩ := hck
    simp only [ka_step] at hst
    split at hst
    · exact kr_aload_n hx hb hd (by assumption) (hKk _ _ _ _ hst hL).2
    · exact hst.elim
  | istore x =>
    simp only [ka_ck, Bool.and_eq_true, decide_eq_true_eq] at hck
    obtain ⟨hd, rfl, hxl⟩ := hck
    simp only [ka_step] at hst
    split at hst
    · exact kr_istore hx hb hd (by rw [hL]; exact hxl) (hKk _ _ _ _ hst (by rw [ka_len_set]; exact hL)).2
    · exact hst.elim
  | istore_n x =>
    simp only [ka_ck, Bool.and_eq_true, decide_eq_true_eq] at hck
    obtain ⟨hd, rfl, hxl⟩ := hck
    simp only [ka_step] at hst
    split at hst
    · exact kr_istore_n hx hb hd (by rw [hL]; exact hxl) (hKk _ _ _ _ hst (by rw [ka_len_set]; exact hL)).2
    · exact hst.elim
  | astore x =>
    simp only [ka_ck, Bool.and_eq_true, decide_eq_true_eq] at hck
    obtain ⟨hd, rfl, hxl⟩ := hck
    simp only [ka_step] at hst
    split at hst
    · exact kr_astore hx hb hd (by rw [hL]; exact hxl) (hKk _ _ _ _ hst (by rw [ka_len_set]; exact hL)).2
    · exact hst.elim
  | astore_n x =>
    simp only [ka_ck, Bool.and_eq_true, decide_eq_true_eq] at hck
    obtain ⟨hd, rfl, hxl⟩ := hck
    simp only [ka_step] at hst
    split at hst
    · exact kr_astore_n hx hb hd (by rw [hL]; exact hxl) (hKk _ _ _ _ hst (by rw [ka_len_set]; exact hL)).2
    · exact hst.elim
  | iinc x n =>
    simp only [ka_ck, Bool.and_eq_true, decide_eq_true_eq] at hck
    obtain ⟨hd, rfl, hxl⟩ := hck
    simp only [ka_step] at hst
    split at hst
    · exact kr_iinc hx hb hd (by rw [hL]; exact hxl) (by assumption) (hKk _ _ _ _ hst (by rw [ka_len_set]; exact hL)).2
    · exact hst.elim
  | iadd =>
    simp only [ka_ck, Bool.and_eq_true, decide_eq_true_eq] at hck
    obtain ⟨hd, rfl⟩ := hck
    simp only [ka_step] at hst
    split at hst
    · exact kr_bin hx hb hd (Or.inl ⟨rfl, rfl⟩) (hKk _ _ _ _ hst hL).2
    · exact hst.elim
  | isub =>
    simp only [ka_ck, Bool.and_eq_true, decide_eq_true_eq] at hck
    obtain ⟨hd, rfl⟩ := hck
    simp only [ka_step] at hst
    split at hst
    · exact kr_bin hx hb hd (Or.inr (Or.inl ⟨rfl, rfl⟩)) (hKk _ _ _ _ hst hL).2
    · exact hst.elim
  | imul =>
    simp only [ka_ck, Bool.and_eq_true, decide_eq_true_eq] at hck
    obtain ⟨hd, rfl⟩ := hck
    simp only [ka_step] at hst
    split at hst
    · exact kr_bin hx hb hd (Or.inr (Or.inr (Or.inl ⟨rfl, rfl⟩))) (hKk _ _ _ _ hst hL).2
    · exact hst.elim
  | iand =>
    simp only [ka_ck, Bool.and_eq_true, decide_eq_true_eq] at hck
    obtain ⟨hd, rfl⟩ := hck
    simp only [ka_step] at hst
    split at hst
    · exact kr_bin hx hb hd (Or.inr (Or.inr (Or.inr (Or.inl ⟨rfl, rfl⟩)))) (hKk _ _ _ _ hst hL).2
    · exact hst.elim
  | ior =>
    simp only [ka_ck, Bool.and_eq_true, decide_eq_true_eq] at hck
    obtain ⟨hd, rfl⟩ := hck
    simp only [ka_step] at hst
    split at hst
    · exact kr_bin hx hb hd (Or.inr (Or.inr (Or.inr (Or.inr (Or.inl ⟨rfl, rfl⟩))))) (hKk _ _ _ _ hst hL).2
    · exact hst.elim
  | ixor =>
    simp only [ka_ck, Bool.and_eq_true, decide_eq_true_eq] at hck
    obtain ⟨hd, rfl⟩ := hck
    simp only [ka_step] at hst
    split at hst
    · exact kr_bin hx hb hd (Or.inr (Or.inr (Or.inr (Or.inr (Or.inr (Or.inl ⟨rfl, rfl⟩)))))) (hKk _ _ _ _ hst hL).2
    · exact hst.elim
  | idiv =>
    simp only [ka_ck, Bool.and_eq_true, decide_eq_true_eq] at hck
    obtain ⟨hd, rfl⟩ := hck
    simp only [ka_step] at hst
    split at hst
    · exact kr_bin hx hb hd (Or.inr (Or.inr (Or.inr (Or.inr (Or.inr (Or.inr (Or.inl ⟨rfl, hst.1, rfl⟩))))))) (hKk _ _ _ _ hst.2 hL).2
    · exact hst.elim
  | irem =>
    simp only [ka_ck, Bool.and_eq_true, decide_eq_true_eq] at hck
    obtain ⟨hd, rfl⟩ := hck
    simp only [ka_step] at hst
    split at hst
    · exact kr_bin hx hb hd (Or.inr (Or.inr (Or.inr (Or.inr (Or.inr (Or.inr (Or.inr (Or.inl ⟨rfl, hst.1, rfl⟩)))))))) (hKk _ _ _ _ hst.2 hL).2
    · exact hst.elim
  | ishl =>
    simp only [ka_ck, Bool.and_eq_true, decide_eq_true_eq] at hck
    obtain ⟨hd, rfl⟩ := hck
    simp only [ka_step] at hst
    split at hst
    · exact kr_bin hx hb hd (Or.inr (Or.inr (Or.inr (Or.inr (Or.inr (Or.inr (Or.inr (Or.inr (Or.inl ⟨rfl, rfl⟩))))))))) (hKk _ _ _ _ hst hL).2
    · exact hst.elim
  | ishr =>
    simp only [ka_ck, Bool.and_eq_true, decide_eq_true_eq] at hck
    obtain ⟨hd, rfl⟩ := hck
    simp only [ka_step] at hst
    split at hst
    · exact kr_bin hx hb hd (Or.inr (Or.inr (Or.inr (Or.inr (Or.inr (Or.inr (Or.inr (Or.inr (Or.inr (Or.inl ⟨rfl, rfl⟩)))))))))) (hKk _ _ _ _ hst hL).2
    · exact hst.elim
  | iushr =>
    simp only [ka_ck, Bool.and_eq_true, decide_eq_true_eq] at hck
    obtain ⟨hd, rfl⟩ := hck
    simp only [ka_step] at hst
    split at hst
    · exact kr_bin hx hb hd (Or.inr (Or.inr (Or.inr (Or.inr (Or.inr (Or.inr (Or.inr (Or.inr (Or.inr (Or.inr ⟨rfl, rfl⟩)))))))))) (hKk _ _ _ _ hst hL).2
    · exact hst.elim
  | i2l =>
    simp only [ka_ck, Bool.and_eq_true, decide_eq_true_eq] at hck
    obtain ⟨hd, rfl⟩ := hck
    simp only [ka_step] at hst
    split at hst
    · exact kr_i2l hx hb hd (hKk _ _ _ _ hst hL).2
    · exact hst.elim
  | i2c =>
    simp only [ka_ck, Bool.and_eq_true, decide_eq_true_eq] at hck
    obtain ⟨hd, rfl⟩ := hck
    simp only [ka_step] at hst
    split at hst
    · exact kr_i2c hx hb hd (hKk _ _ _ _ hst hL).2
    · exact hst.elim
  | lcmp =>
    simp only [ka_ck, Bool.and_eq_true, decide_eq_true_eq] at hck
    obtain ⟨hd, rfl⟩ := hck
    simp only [ka_step] at hst
    split at hst
    · exact kr_lcmp hx hb hd (hKk _ _ _ _ hst hL).2
    · exact hst.elim
  | dup =>
    simp only [ka_ck, Bool.and_eq_true, decide_eq_true_eq] at hck
    obtain ⟨hd, rfl⟩ := hck
    simp only [ka_step] at hst
    split at hst
    · exact kr_dup hx hb hd rfl (hKk _ _ _ _ hst hL).2
    · exact kr_dup hx hb hd rfl (hKk _ _ _ _ hst hL).2
    · exact hst.elim
  | dup2 =>
    simp only [ka_ck, Bool.and_eq_true, decide_eq_true_eq] at hck
    obtain ⟨hd, rfl⟩ := hck
    simp only [ka_step] at hst
    split at hst
    · exact kr_dup2 hx hb hd rfl rfl (hKk _ _ _ _ hst hL).2
    · exact hst.elim
  | pop =>
    simp only [ka_ck, Bool.and_eq_true, decide_eq_true_eq] at hck
    obtain ⟨hd, rfl⟩ := hck
    simp only [ka_step] at hst
    split at hst
    · exact kr_pop hx hb hd rfl (hKk _ _ _ _ hst hL).2
    · exact kr_pop hx hb hd rfl (hKk _ _ _ _ hst hL).2
    · exact hst.elim
  | goto off =>
    simp only [ka_step] at hst
    split at hst
    · simp only [ka_ck, ka_ck1, Bool.and_eq_true, decide_eq_true_eq] at hck
      obtain ⟨hd, rfl, ht⟩ := hck
      exact kr_goto hx hb hd ht (hKk _ _ _ _ hst hL).2
    · exact hst.elim
  | ifCond cd off =>
    simp only [ka_step] at hst
    split at hst
    · simp only [ka_ck, ka_ck1, Bool.and_eq_true, decide_eq_true_eq] at hck
      obtain ⟨hd, rfl, ht⟩ := hck
      exact kr_if hx hb hd ht hst (fun z => (hKk _ _ _ _ z hL).2) (fun z => (hKk _ _ _ _ z hL).2)
    · exact hst.elim
  | if_icmp cd off =>
    simp only [ka_step] at hst
    split at hst
    · simp only [ka_ck, ka_ck1, Bool.and_eq_true, decide_eq_true_eq] at hck
      obtain ⟨hd, rfl, ht⟩ := hck
      exact kr_icmp hx hb hd ht hst (fun z => (hKk _ _ _ _ z hL).2) (fun z => (hKk _ _ _ _ z hL).2)
    · exact hst.elim
  | if_acmp cd off =>
    simp only [ka_step] at hst
    split at hst
    · simp only [ka_ck, ka_ck1, Bool.and_eq_true, decide_eq_true_eq] at hck
      obtain ⟨hd, rfl, ht⟩ := hck
      obtain ⟨⟨z1, z2⟩, hst⟩ := hst
      have hlt14 : ∀ i, i < 14 → G.2.2.2.1 i < ka_b G := fun i hi => hZs.1 i (by omega)
      cases cd with
      | eq => exact kr_acmp hZs.2.1 hlt14 z1 z2 hx hb hd ht (Or.inl rfl) (fun z => by
          rcases z with ⟨-, z⟩ | ⟨z, -⟩
          · exact (hKk _ _ _ _ (hst.1 z) hL).2
          · cases z) (fun z => by
          rcases z with ⟨-, z⟩ | ⟨z, -⟩
          · exact (hKk _ _ _ _ (hst.2 z) hL).2
          · cases z)
      | ne => exact kr_acmp hZs.2.1 hlt14 z1 z2 hx hb hd ht (Or.inr rfl) (fun z => by
          rcases z with ⟨z, -⟩ | ⟨-, z⟩
          · cases z
          · exact (hKk _ _ _ _ (hst.1 z) hL).2) (fun z => by
          rcases z with ⟨z, -⟩ | ⟨-, z⟩
          · cases z
          · exact (hKk _ _ _ _ (hst.2 z) hL).2)
    · exact hst.elim
  | ifnull off =>
    simp only [ka_step] at hst
    split at hst
    · simp only [ka_ck, ka_ck1, Bool.and_eq_true, decide_eq_true_eq] at hck
      obtain ⟨hd, rfl, ht⟩ := hck
      exact kr_null_br hx hb hd ht (Or.inl rfl) (fun z => by
          rcases z with ⟨-, z⟩ | ⟨z, -⟩
          · exact (hKk _ _ _ _ (hst.1 z) hL).2
          · cases z) (fun z => by
          rcases z with ⟨-, z⟩ | ⟨z, -⟩
          · exact (hKk _ _ _ _ (hst.2 z) hL).2
          · cases z)
    · exact hst.elim
  | ifnonnull off =>
    simp only [ka_step] at hst
    split at hst
    · simp only [ka_ck, ka_ck1, Bool.and_eq_true, decide_eq_true_eq] at hck
      obtain ⟨hd, rfl, ht⟩ := hck
      exact kr_null_br hx hb hd ht (Or.inr rfl) (fun z => by
          rcases z with ⟨z, -⟩ | ⟨-, z⟩
          · cases z
          · exact (hKk _ _ _ _ (hst.1 z) hL).2) (fun z => by
          rcases z with ⟨z, -⟩ | ⟨-, z⟩
          · cases z
          · exact (hKk _ _ _ _ (hst.2 z) hL).2)
    · exact hst.elim
  | tableswitch df lo hi offs =>
    simp only [ka_step] at hst
    split at hst
    · simp only [ka_ck, Bool.and_eq_true, decide_eq_true_eq, List.all_eq_true, List.mem_range] at hck
      obtain ⟨hd, ⟨⟨⟨⟨h1, h2⟩, h3⟩, h4⟩, h5⟩, h6⟩ := hck
      exact kr_switch hx hb hd h1 h2 h3 h4 h5 h6 hst (fun t z => (hKk _ _ _ _ z hL).2)
    · exact hst.elim
  | getfield x =>
    simp only [ka_step] at hst
    simp only [ka_ck, Bool.and_eq_true, decide_eq_true_eq] at hck
    obtain ⟨hd, rfl, hck⟩ := hck
    have key : ∀ t ci f a S', ka_lk (ka_own mt) x = [t, ci, f] → S = .ref a :: S' → (ka_K h a).1 = ci → ((t = 1 ∨ t = 3) ∧ k (pc + 3) L (.int (ka_I h a f) :: S') h ∨ t = 2 ∧ k (pc + 3) L (.ref (ka_P h a f) :: S') h) → ka_W G p l e R s m args below meth c Q n0 t0 pc L S h := by
      intro t ci f a S' hlk hS hk9 hkk
      subst hS
      rw [hlk] at hck
      simp only [Bool.or_eq_true] at hck
      rcases hck with hck | hck
      · simp only [ka_ckf, Bool.and_eq_true, decide_eq_true_eq] at hck
        obtain ⟨⟨⟨h1, h2⟩, h3⟩, h4⟩ := hck
        rcases hkk with ⟨ht, hkk⟩ | ⟨ht, hkk⟩
        · refine kr_getf hZw hZc hW hx hb hd hown h1 h2 (ka_h_at hZw hW h3) hk9 ?_ (hKk _ _ _ _ hkk hL).2
          unfold ka_fv
          rw [if_neg]
          · rfl
          · rcases h4 with ⟨z, h4⟩ | ⟨z, h4⟩ | ⟨z, h4⟩
            · rw [h4]; decide
            · rw [h4]; decide
            · omega
        · refine kr_getf hZw hZc hW hx hb hd hown h1 h2 (ka_h_at hZw hW h3) hk9 ?_ (hKk _ _ _ _ hkk hL).2
          unfold ka_fv
          rw [if_pos]
          rcases h4 with ⟨z, h4⟩ | ⟨z, h4⟩ | ⟨z, h4⟩
          · omega
          · omega
          · exact h4
      · simp only [ka_cks, Bool.and_eq_true, decide_eq_true_eq] at hck
        obtain ⟨⟨h1, h2⟩, h3⟩ := hck
        rcases hkk with ⟨ht, hkk⟩ | ⟨ht, hkk⟩
        · exact kr_getfS hZo hZs hW hx hb hd hown h1 (ka_h_at hZw hW h2) hk9 (Or.inr ⟨by omega, rfl⟩) (hKk _ _ _ _ hkk hL).2
        · exact kr_getfS hZo hZs hW hx hb hd hown h1 (ka_h_at hZw hW h2) hk9 (Or.inl ⟨by omega, rfl⟩) (hKk _ _ _ _ hkk hL).2
    split at hst
    · exact key _ _ _ _ _ (by assumption) rfl hst.1 (Or.inl ⟨Or.inl rfl, hst.2⟩)
    · exact key _ _ _ _ _ (by assumption) rfl hst.1 (Or.inr ⟨rfl, hst.2⟩)
    · exact key _ _ _ _ _ (by assumption) rfl hst.1 (Or.inl ⟨Or.inr rfl, hst.2⟩)
    · exact hst.elim
  | putfield x =>
    simp only [ka_step] at hst
    simp only [ka_ck, Bool.and_eq_true, decide_eq_true_eq] at hck
    obtain ⟨hd, rfl, hck⟩ := hck
    have fin : ∀ t ci f, ka_lk (ka_own mt) x = [t, ci, f] → (ci < 10 ∧ f < (ka_T ci).2.2 ∧ (Cond.fieldLink (ka_on (ka_own mt)) x ((ka_T ci).2.1 f).1 ((ka_T ci).2.1 f).2.1 ((ka_T ci).2.1 f).2.2.1).before args s = true ∧ ((t = 1 ∧ ka_ty ci f = .int) ∨ (t = 3 ∧ ka_ty ci f = .boolean) ∨ (t = 2 ∧ ka_isr (ka_ty ci f) = true))) ∧ (((ka_T ci).2.1 f).2.2.2 = false ∨ (((ka_T ci).2.1 f).2.2.2 = true ∧ meth.name = "<init>" ∧ ((ka_T ci).2.1 f).1 = ka_on (ka_own mt))) := by
      intro t ci f hlk
      rw [hlk] at hck
      simp only [ka_ckf, Bool.and_eq_true, Bool.or_eq_true, decide_eq_true_eq] at hck
      obtain ⟨⟨⟨⟨h1, h2⟩, h3⟩, h4⟩, h5⟩ := hck
      refine ⟨⟨h1, h2, ka_h_at hZw hW h3, h4⟩, ?_⟩
      rcases h5 with h5 | ⟨⟨h5, h6⟩, h7⟩
      · exact Or.inl h5
      · exact Or.inr ⟨h5, by rw [hname]; exact h6, h7⟩
    split at hst
    · rename_i ci f w a S' hlk
      obtain ⟨⟨h1, h2, h3, h4⟩, h5⟩ := fin _ ci f hlk
      have hty : ka_ty ci f = .int := by
        rcases h4 with ⟨-, h4⟩ | ⟨z, -⟩ | ⟨z, -⟩
        · exact h4
        · cases z
        · cases z
      exact kr_putf (h' := ka_sI h a f w) hZw hZc hW hx hb hd hown h1 h2 h3 hst.1 h5 (by rw [hty]; rfl) (by rw [hty]; rfl) rfl rfl (fun _ => rfl) (fun b hb' j => ka_uN _ _ _ _ hb' j) (fun _ _ _ => rfl) (fun _ _ _ => rfl) (fun j _ => ka_fv_upI (by rw [hty]; rfl) j) (hKk _ _ _ _ hst.2 hL).2
    · rename_i ci f w a S' hlk
      obtain ⟨⟨h1, h2, h3, h4⟩, h5⟩ := fin _ ci f hlk
      have hty : ka_ty ci f = .boolean := by
        rcases h4 with ⟨z, -⟩ | ⟨-, h4⟩ | ⟨z, -⟩
        · cases z
        · exact h4
        · cases z
      have hw := hst.1.2
      exact kr_putf (h' := ka_sI h a f w) hZw hZc hW hx hb hd hown h1 h2 h3 hst.1.1 h5 (by rw [hty]; rcases hw with rfl | rfl <;> rfl) (by rw [hty]; rcases hw with rfl | rfl <;> rfl) rfl rfl (fun _ => rfl) (fun b hb' j => ka_uN _ _ _ _ hb' j) (fun _ _ _ => rfl) (fun _ _ _ => rfl) (fun j _ => ka_fv_upI (by rw [hty]; rfl) j) (hKk _ _ _ _ hst.2 hL).2
    · rename_i ci f w a S' hlk
      obtain ⟨⟨h1, h2, h3, h4⟩, h5⟩ := fin _ ci f hlk
      have hty : ka_isr (ka_ty ci f) = true := by
        rcases h4 with ⟨z, -⟩ | ⟨z, -⟩ | ⟨-, h4⟩
        · cases z
        · cases z
        · exact h4
      exact kr_putf (h' := ka_sP h a f w) hZw hZc hW hx hb hd hown h1 h2 h3 hst.1 h5 (ka_fit_ref hty _).1 (ka_fit_ref hty _).2 rfl rfl (fun _ => rfl) (fun _ _ _ => rfl) (fun b hb' j => ka_uN _ _ _ _ hb' j) (fun _ _ _ => rfl) (fun j _ => ka_fv_upP hty j) (hKk _ _ _ _ hst.2 hL).2
    · exact hst.elim
  | iaload =>
    simp only [ka_ck, Bool.and_eq_true, decide_eq_true_eq] at hck
    obtain ⟨hd, rfl⟩ := hck
    simp only [ka_step] at hst
    split at hst
    · exact kr_ald hZa hZs hW hx hb hd (Or.inl ⟨rfl, hst.1.1, rfl⟩) hst.1.2 (hKk _ _ _ _ hst.2 hL).2
    · exact hst.elim
  | baload =>
    simp only [ka_ck, Bool.and_eq_true, decide_eq_true_eq] at hck
    obtain ⟨hd, rfl⟩ := hck
    simp only [ka_step] at hst
    split at hst
    · exact kr_ald hZa hZs hW hx hb hd (Or.inr (Or.inl ⟨rfl, hst.1.1, rfl⟩)) hst.1.2 (hKk _ _ _ _ hst.2 hL).2
    · exact hst.elim
  | laload =>
    simp only [ka_ck, Bool.and_eq_true, decide_eq_true_eq] at hck
    obtain ⟨hd, rfl⟩ := hck
    simp only [ka_step] at hst
    split at hst
    · exact kr_ald hZa hZs hW hx hb hd (Or.inr (Or.inr (Or.inl ⟨rfl, hst.1.1, rfl⟩))) hst.1.2 (hKk _ _ _ _ hst.2 hL).2
    · exact hst.elim
  | aaload =>
    simp only [ka_ck, Bool.and_eq_true, decide_eq_true_eq] at hck
    obtain ⟨hd, rfl⟩ := hck
    simp only [ka_step] at hst
    split at hst
    · exact kr_ald hZa hZs hW hx hb hd (Or.inr (Or.inr (Or.inr ⟨rfl, ⟨hst.1.1, hst.1.2.1⟩, rfl⟩))) hst.1.2.2 (hKk _ _ _ _ hst.2 hL).2
    · exact hst.elim
  | iastore =>
    simp only [ka_ck, Bool.and_eq_true, decide_eq_true_eq] at hck
    obtain ⟨hd, rfl⟩ := hck
    simp only [ka_step] at hst
    split at hst
    · exact kr_ast hZa hW hx hb hd (Or.inl ⟨_, rfl, hst.1.1, rfl, rfl⟩) hst.1.2 (hKk _ _ _ _ hst.2 hL).2
    · exact hst.elim
  | bastore =>
    simp only [ka_ck, Bool.and_eq_true, decide_eq_true_eq] at hck
    obtain ⟨hd, rfl⟩ := hck
    simp only [ka_step] at hst
    split at hst
    · exact kr_ast hZa hW hx hb hd (Or.inr (Or.inl ⟨_, rfl, hst.1.1, hst.1.2.2, rfl, rfl⟩)) hst.1.2.1 (hKk _ _ _ _ hst.2 hL).2
    · exact hst.elim
  | lastore =>
    simp only [ka_ck, Bool.and_eq_true, decide_eq_true_eq] at hck
    obtain ⟨hd, rfl⟩ := hck
    simp only [ka_step] at hst
    split at hst
    · exact kr_ast hZa hW hx hb hd (Or.inr (Or.inr ⟨_, rfl, hst.1.1, rfl, rfl⟩)) hst.1.2 (hKk _ _ _ _ hst.2 hL).2
    · exact hst.elim
  | aastore =>
    simp only [ka_ck, Bool.and_eq_true, decide_eq_true_eq] at hck
    obtain ⟨hd, rfl⟩ := hck
    simp only [ka_step] at hst
    split at hst
    · exact kr_aast hZa hZc hW hx hb hd hst.1.1 hst.1.2 (hKk _ _ _ _ hst.2 hL).2
    · exact hst.elim
  | arraylength =>
    simp only [ka_ck, Bool.and_eq_true, decide_eq_true_eq] at hck
    obtain ⟨hd, rfl⟩ := hck
    simp only [ka_step] at hst
    split at hst
    · rename_i a S'
      intro q1 q2 H locs ls hr hz hl
      have hk39 : ∀ a : Nat, (ka_K h a).1 ≠ 39 := by
        intro a z
        obtain ⟨r1, r2, r3, r4, r5, r6, r7⟩ := hr
        by_cases h1 : a < 1000000
        · by_cases h0 : a = 0 ∨ h.1 ≤ a ∧ a < 1000000
          · have := r6 a h0; omega
          · have := (r5 a (by omega) (by omega)).2.2.2.2.2; omega
        · obtain ⟨i, rfl⟩ : ∃ i, a = 1000000 + i := ⟨a - 1000000, by omega⟩
          rw [(r7 i).1] at z
          unfold ka_sK at z
          repeat' split at z
          all_goals simp at z
      exact kr_alen hZa hZs hW hx hb hd hst.1 (hk39 a) (hKk _ _ _ _ hst.2 hL).2 q1 q2 H locs ls hr hz hl
    · exact hst.elim
  | new x =>
    simp only [ka_step] at hst
    simp only [ka_ck, Bool.and_eq_true, decide_eq_true_eq] at hck
    obtain ⟨hd, rfl, hck⟩ := hck
    split at hst
    · rename_i ci sz hlk
      rw [hlk] at hck
      simp only [Bool.and_eq_true, decide_eq_true_eq] at hck
      obtain ⟨⟨⟨⟨h1, rfl⟩, h3⟩, h4⟩, h5⟩ := hck
      have hK9 := hKk _ _ _ _ hst.2 hL
      have g1 : h.1 + 1 - n0 ≤ R.cells := hK9.1.1
      have g2 : h.2.1 + (ka_T ci).2.2 - t0 ≤ R.slots := hK9.1.2
      intro q1 q2
      exact kr_new hZw hZc hW hx hb hd hown h1 (ka_h_at hZw hW h3) (ka_h_at hZw hW h4) (ka_h_at hZw hW h5) hst.1 (by omega) (by omega) hK9.2 q1 q2
    · rename_i ex hlk
      rw [hlk] at hck
      obtain ⟨hok, hn9, hst⟩ := ka_cond hst
      exact ka_throw hF' hE hKr hR hL hd hck (ka_okc_cat 8 S hok) hn9 hst
    · exact hst.elim
  | newarray t =>
    simp only [ka_ck, Bool.and_eq_true, decide_eq_true_eq] at hck
    obtain ⟨hd, rfl, ht⟩ := hck
    simp only [ka_step] at hst
    split at hst
    · rename_i n S'
      have hK9 := hKk _ _ _ _ hst.2 hL
      have g1 : h.1 + 1 - n0 ≤ R.cells := hK9.1.1
      have g2 : h.2.1 + n.toNatClampNeg - t0 ≤ R.slots := hK9.1.2
      intro q1 q2
      have harr : (Cond.arrayClass (newarray.typeOf t)).before args s = true := by
        rcases ht with rfl | rfl | rfl
        · exact ka_mvA hW (hZw _ ka_arrin.2.2.2.2.1)
        · exact ka_mvA hW (hZw _ ka_arrin.2.2.2.2.2.1)
        · exact ka_mvA hW (hZw _ ka_arrin.2.2.2.2.2.2)
      exact kr_newa hZa hW hx hb hd ht harr hst.1.1 hst.1.2.1 hst.1.2.2 (by omega) (by omega) hK9.2 q1 q2
    · exact hst.elim
  | anewarray x =>
    simp only [ka_step] at hst
    simp only [ka_ck, Bool.and_eq_true, decide_eq_true_eq] at hck
    obtain ⟨hd, rfl, hck⟩ := hck
    split at hst
    · rename_i ci y n S' hlk
      rw [hlk] at hck
      simp only [Bool.and_eq_true, decide_eq_true_eq] at hck
      obtain ⟨h1, h3⟩ := hck
      have hK9 := hKk _ _ _ _ hst.2 hL
      have g1 : h.1 + 1 - n0 ≤ R.cells := hK9.1.1
      have g2 : h.2.1 + n.toNatClampNeg - t0 ≤ R.slots := hK9.1.2
      intro q1 q2
      have hover : (Cond.arrayOver (.object (ka_T ci).1)).before args s = true := by
        rcases (show ci = 3 ∨ ci = 4 ∨ ci = 5 by omega) with rfl | rfl | rfl
        · exact va_AO.use (va_AO.moved hW.alike (va_AO.of (hZw _ ka_arrin.1)))
        · exact va_AO.use (va_AO.moved hW.alike (va_AO.of (hZw _ ka_arrin.2.1)))
        · exact va_AO.use (va_AO.moved hW.alike (va_AO.of (hZw _ ka_arrin.2.2.1)))
      exact kr_anew hZa hW hx hb hd hown h1 (ka_h_at hZw hW h3) hover hst.1.2.2.1 hst.1.2.2.2.1 hst.1.2.2.2.2 (by omega) (by omega) hK9.2 q1 q2
    · exact hst.elim
  | multianewarray x y =>
    simp only [ka_ck, Bool.and_eq_true, decide_eq_true_eq] at hck
    obtain ⟨hd, rfl, hck⟩ := hck
    by_cases hy : y = 2
    · subst hy
      simp only [ka_step] at hst
      split at hst
      · rename_i z n S' hlk
        rw [hlk] at hck
        have hK9 := hKk _ _ _ _ hst.2 hL
        have g1 : h.1 + (n.toNatClampNeg + 1) - n0 ≤ R.cells := hK9.1.1
        have g2 : h.2.1 + (n.toNatClampNeg + n.toNatClampNeg * z.toNatClampNeg) - t0 ≤ R.slots := hK9.1.2
        intro q1 q2
        exact kr_multi hZa hW hx hb hd hown (ka_h_at hZw hW hck) (ka_AOA hW.alike (hZw _ ka_arrin.2.2.2.1)) (ka_mvA hW (hZw _ ka_arrin.2.2.2.2.1)) hst.1.1.1 hst.1.1.2 hst.1.2.1.1 hst.1.2.1.2 hst.1.2.2 (by omega) (by omega) hK9.2 q1 q2
      · exact hst.elim
    · exfalso
      unfold ka_step at hst
      split at hst <;> first | exact hst.elim | simp_all
  | invokevirtual x =>
    simp only [ka_ck, Bool.and_eq_true, decide_eq_true_eq] at hck
    obtain ⟨hd, ⟨rfl, h1⟩, h2⟩ := hck
    exact ka_inv_snd hF' hE hKk hKc hKw hKr hR hL hd (Or.inl rfl) h1 h2 hst
  | invokestatic x =>
    simp only [ka_ck, Bool.and_eq_true, decide_eq_true_eq] at hck
    obtain ⟨hd, ⟨rfl, h1⟩, h2⟩ := hck
    exact ka_inv_snd hF' hE hKk hKc hKw hKr hR hL hd (Or.inr (Or.inl rfl)) h1 h2 hst
  | invokespecial x =>
    simp only [ka_ck, Bool.and_eq_true, decide_eq_true_eq] at hck
    obtain ⟨hd, ⟨rfl, h1⟩, h2⟩ := hck
    exact ka_inv_snd hF' hE hKk hKc hKw hKr hR hL hd (Or.inr (Or.inr rfl)) h1 h2 hst
  | ldc x =>
    simp only [ka_step] at hst
    simp only [ka_ck, Bool.and_eq_true, decide_eq_true_eq] at hck
    obtain ⟨hd, rfl, hck⟩ := hck
    split at hst
    · rename_i n hlk
      rw [hlk] at hck
      exact fun q1 q2 H locs ls hr hz hl => lv_ldc hx hb hown (ka_h_at hZw hW hck) hd ((hKk _ _ _ _ hst hL).2 q1 q2 H locs ls hr hz hl)
    · rename_i r hlk
      rw [hlk] at hck
      simp only [List.any_eq_true, decide_eq_true_eq] at hck
      obtain ⟨q, hq, e1, e2, e3⟩ := hck
      have hZ9 := hZt q hq
      rw [e1, e2, e3] at hZ9
      refine kr_ldcS hW hx hb hd hown (fun z => ?_) hZ9 (hKk _ _ _ _ hst hL).2
      rw [z] at e3
      simp only [ka_strs, List.mem_cons, List.not_mem_nil, or_false] at hq
      rcases hq with rfl | rfl | rfl | rfl | rfl <;> cases e3
    · exact hst.elim
  | ldc_w x =>
    simp only [ka_step] at hst
    simp only [ka_ck, Bool.and_eq_true, decide_eq_true_eq] at hck
    obtain ⟨hd, rfl, hck⟩ := hck
    split at hst
    · rename_i n hlk
      rw [hlk] at hck
      exact fun q1 q2 H locs ls hr hz hl => lv_ldcw hx hb hown (ka_h_at hZw hW hck) hd ((hKk _ _ _ _ hst hL).2 q1 q2 H locs ls hr hz hl)
    · rename_i r hlk
      rw [hlk] at hck
      cases hck
    · exact hst.elim
  | getstatic x =>
    simp only [ka_step] at hst
    simp only [ka_ck, Bool.and_eq_true, decide_eq_true_eq] at hck
    obtain ⟨hd, rfl, hck⟩ := hck
    have key : ∀ v : Value, ka_ckg (ka_own mt) x v = true → k (pc + 3) L (v :: S) h → ka_W G p l e R s m args below meth c Q n0 t0 pc L S h := by
      intro v hg hk9
      simp only [ka_ckg, List.any_eq_true, Bool.and_eq_true, Bool.or_eq_true, decide_eq_true_eq] at hg
      obtain ⟨q, hq, rfl, h3⟩ := hg
      refine kr_gets hW hx hb hd hown (hZg q hq) ?_ (hKk _ _ _ _ hk9 hL).2
      rcases h3 with h3 | h3
      · exact Or.inl (ka_h_at hZw hW h3)
      · exact Or.inr ⟨"KeptAnswers", va_Nw.use rfl (va_Nw.warmF hW (va_Nw.of rfl (hZw _ (ka_hm_mem h3))))⟩
    split at hst
    · rename_i r hlk
      rw [hlk] at hck
      exact key _ hck hst
    · rename_i r hlk
      rw [hlk] at hck
      exact key _ hck hst
    · rename_i hlk
      rw [hlk] at hck
      exact key _ hck hst
    · exact hst.elim
  | checkcast x =>
    simp only [ka_step] at hst
    simp only [ka_ck, Bool.and_eq_true, decide_eq_true_eq] at hck
    obtain ⟨hd, rfl, hck⟩ := hck
    split at hst
    · rename_i a S' hlk
      rw [hlk] at hck
      exact kr_cast hZa hW hx hb hd hown (ka_h_at hZw hW hck) hst.1 (hKk _ _ _ _ hst.2 hL).2
    · exact hst.elim
  | ireturn =>
    simp only [ka_ck, Bool.and_eq_true, decide_eq_true_eq] at hck
    obtain ⟨hd, rfl, hck⟩ := hck
    simp only [ka_step] at hst
    split at hst
    · exact fun q1 q2 H locs ls hr hz hl => hE.1 _ _ hst.2 H locs ls pc hr hz (Or.inl ⟨hd, hck, _, rfl, hst.1⟩)
    · exact hst.elim
  | areturn =>
    simp only [ka_ck, Bool.and_eq_true, decide_eq_true_eq] at hck
    obtain ⟨hd, rfl, hck⟩ := hck
    simp only [ka_step] at hst
    split at hst
    · exact fun q1 q2 H locs ls hr hz hl => hE.1 _ _ hst H locs ls pc hr hz (Or.inr (Or.inl ⟨hd, hck, _, rfl⟩))
    · exact hst.elim
  | return_ =>
    simp only [ka_ck, Bool.and_eq_true, decide_eq_true_eq] at hck
    obtain ⟨hd, rfl, hck⟩ := hck
    simp only [ka_step] at hst
    split at hst
    · exact fun q1 q2 H locs ls hr hz hl => hE.1 _ _ hst H locs ls pc hr hz (Or.inr (Or.inr ⟨hd, hck, rfl⟩))
    · exact hst.elim
  | _ => exact False.elim hst
end KT
