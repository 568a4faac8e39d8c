/-! ===== Math.max and Math.min: of a class some of whose methods are run by an entry, but not these ===== -/
def kxW (m d : Nat) (r : ka_R) (h' : ka_H) : Nat → ka_C := ka_wp (ka_lk (ka_own m)) (ka_run d) (ka_hs m) (ka_rt m) (ka_cd m) (fun _ => false) (fun _ _ _ _ => False) (fun r1 h1 => r1 = r ∧ h1 = h')
theorem kx_276 {d : Nat} {as : List Value} {h h' : ka_H} {r : ka_R} (q : ka_run d 276 as h r h') : ∃ a b : Int32, as = [.int a, .int b] ∧ r = .inl (some (.int (if a < b then b else a))) ∧ h' = h := by
  cases d with
  | zero => exact q.elim
  | succ d =>
    obtain ⟨⟨hok, hlen⟩, n, hw⟩ := q
    rcases n with _ | n
    · exact (show False from hw).elim
    rcases as with _ | ⟨x, _ | ⟨y, _ | ⟨z, as⟩⟩⟩
    · exact (show False from hw).elim
    · cases x with
      | int a =>
        rcases n with _ | n
        · exact (show False from hw).elim
        · exact (show False from hw).elim
      | _ => exact (show False from hw).elim
    · cases x with
      | int a =>
        have h1 : kxW 276 d r h' n 1 [.int a, y] [.int a] h := hw
        rcases n with _ | n
        · exact (show False from h1).elim
        cases y with
        | int b =>
          have h2 : kxW 276 d r h' n 2 [.int a, .int b] [.int b, .int a] h := h1
          rcases n with _ | n
          · exact (show False from h2).elim
          have h3 : (a < b → kxW 276 d r h' n 9 [.int a, .int b] [] h) ∧ (¬ a < b → kxW 276 d r h' n 5 [.int a, .int b] [] h) := h2
          refine ⟨a, b, rfl, ?_⟩
          by_cases c : a < b
          · have h4 := h3.1 c
            rcases n with _ | n
            · exact (show False from h4).elim
            have h5 : kxW 276 d r h' n 10 [.int a, .int b] [.int b] h := h4
            rcases n with _ | n
            · exact (show False from h5).elim
            have h6 : ka_okr (ka_rt 276) b ∧ (.inl (some (.int b)) = r ∧ h = h') := h5
            rw [if_pos c]
            exact ⟨h6.2.1.symm, h6.2.2.symm⟩
          · have h4 := h3.2 c
            rcases n with _ | n
            · exact (show False from h4).elim
            have h5 : kxW 276 d r h' n 6 [.int a, .int b] [.int a] h := h4
            rcases n with _ | n
            · exact (show False from h5).elim
            have h6 : kxW 276 d r h' n 10 [.int a, .int b] [.int a] h := h5
            rcases n with _ | n
            · exact (show False from h6).elim
            have h7 : ka_okr (ka_rt 276) a ∧ (.inl (some (.int a)) = r ∧ h = h') := h6
            rw [if_neg c]
            exact ⟨h7.2.1.symm, h7.2.2.symm⟩
        | _ => exact (show False from h1).elim
      | _ => exact (show False from hw).elim
    · exact absurd hlen (by
        show ¬ (as.length + 1 + 1 + 1 ≤ 2)
        omega)
theorem kx_277 {d : Nat} {as : List Value} {h h' : ka_H} {r : ka_R} (q : ka_run d 277 as h r h') : ∃ a b : Int32, as = [.int a, .int b] ∧ r = .inl (some (.int (if b < a then b else a))) ∧ h' = h := by
  cases d with
  | zero => exact q.elim
  | succ d =>
    obtain ⟨⟨hok, hlen⟩, n, hw⟩ := q
    rcases n with _ | n
    · exact (show False from hw).elim
    rcases as with _ | ⟨x, _ | ⟨y, _ | ⟨z, as⟩⟩⟩
    · exact (show False from hw).elim
    · cases x with
      | int a =>
        rcases n with _ | n
        · exact (show False from hw).elim
        · exact (show False from hw).elim
      | _ => exact (show False from hw).elim
    · cases x with
      | int a =>
        have h1 : kxW 277 d r h' n 1 [.int a, y] [.int a] h := hw
        rcases n with _ | n
        · exact (show False from h1).elim
        cases y with
        | int b =>
          have h2 : kxW 277 d r h' n 2 [.int a, .int b] [.int b, .int a] h := h1
          rcases n with _ | n
          · exact (show False from h2).elim
          have h3 : (b < a → kxW 277 d r h' n 9 [.int a, .int b] [] h) ∧ (¬ b < a → kxW 277 d r h' n 5 [.int a, .int b] [] h) := h2
          refine ⟨a, b, rfl, ?_⟩
          by_cases c : b < a
          · have h4 := h3.1 c
            rcases n with _ | n
            · exact (show False from h4).elim
            have h5 : kxW 277 d r h' n 10 [.int a, .int b] [.int b] h := h4
            rcases n with _ | n
            · exact (show False from h5).elim
            have h6 : ka_okr (ka_rt 277) b ∧ (.inl (some (.int b)) = r ∧ h = h') := h5
            rw [if_pos c]
            exact ⟨h6.2.1.symm, h6.2.2.symm⟩
          · have h4 := h3.2 c
            rcases n with _ | n
            · exact (show False from h4).elim
            have h5 : kxW 277 d r h' n 6 [.int a, .int b] [.int a] h := h4
            rcases n with _ | n
            · exact (show False from h5).elim
            have h6 : kxW 277 d r h' n 10 [.int a, .int b] [.int a] h := h5
            rcases n with _ | n
            · exact (show False from h6).elim
            have h7 : ka_okr (ka_rt 277) a ∧ (.inl (some (.int a)) = r ∧ h = h') := h6
            rw [if_neg c]
            exact ⟨h7.2.1.symm, h7.2.2.symm⟩
        | _ => exact (show False from h1).elim
      | _ => exact (show False from hw).elim
    · exact absurd hlen (by
        show ¬ (as.length + 1 + 1 + 1 ≤ 2)
        omega)
theorem kx_ml {l : Launch} {G : ka_G} {d mt : Nat} {a b w : Int32} {h : ka_H} {S : Spec} {cd : ByteArray} (hM : MeetsLoose l (ka_y mt) S) (hroom : S.room = {}) (hcw : ka_cw mt = .code (ka_y mt) cd 2 (some .int))
    (hpre : ∀ s : State, (Cond.code (ka_y mt) cd 2 (some .int)).before #[.int a, .int b] s = true → S.pre.before #[.int a, .int b] s = true)
    (hens : ∀ (s : State) (o : Outcome) (t : State), S.ensures #[.int a, .int b] s o t → o = .returned (some (.int w)) ∧ t = s.setFrames t.frames) :
    Met l (ka_y mt) [ka_cw mt] (ka_rm d (h.1 - h.1) (h.2.1 - h.2.1)) (ka_Pc G [.int a, .int b] h) (ka_Qc G (some (.int w)) h) (h.1 - h.1) (h.2.1 - h.2.1) (ka_A G) := by
  rw [Nat.sub_self, Nat.sub_self]
  intro p e ha hc hk s m args below hf happ hP hK
  obtain ⟨hargs, hrel, hW⟩ := hP
  have hargs' : args = #[.int a, .int b] := hargs
  subst hargs'
  obtain ⟨h1, h2, h3, h4, h5, h6, h7, h8⟩ := (Spec.appliesLoose_iff hf).mp happ
  have h9 := atoms_spec (ws := [ka_cw mt]) h8 _ List.mem_cons_self
  rw [hcw] at h9
  have h10 : s.hasRoom e.platform S.room = true := by
    rw [hroom]
    have h7' : s.hasRoom e.platform (ka_rm d 0 0) = true := h7
    unfold State.hasRoom at h7' ⊢
    simp only [Bool.and_eq_true, decide_eq_true_eq] at h7' ⊢
    obtain ⟨⟨⟨⟨q1, q2, q3, q4, q5, q6⟩, q7⟩, q8⟩, q9⟩ := h7'
    exact ⟨⟨⟨⟨Nat.le_trans (Nat.add_le_add_right (Nat.add_le_add_left (Nat.zero_le _) _) _) q1, Nat.le_trans (Nat.add_le_add_left (Nat.zero_le _) _) q2, Nat.le_trans (Nat.add_le_add_left (Nat.zero_le _) _) q3, Nat.le_trans (Nat.add_le_add_left (Nat.zero_le _) _) q4, Nat.le_trans (Nat.add_le_add_left (Nat.zero_le _) _) q5, q6⟩, Nat.le_trans (Nat.add_le_add_left (Nat.zero_le _) _) q7⟩, Nat.le_trans (Nat.add_le_add_left (Nat.zero_le _) _) q8⟩, q9⟩
  obtain ⟨n, o, k1, k2, k3, k4⟩ := hM p e ha hc hk s m _ below hf ((Spec.appliesLoose_iff hf).mpr ⟨h1, h2, h3, h4, h5, h6, h10, hpre s h9⟩)
  obtain ⟨rfl, k5⟩ := hens _ _ _ k4
  refine ⟨n, _, k1, k2, k3, ?_⟩
  generalize (stepsAlone p.tables e n s) = t at k5 ⊢
  obtain ⟨fs, rfl⟩ : ∃ fs, t = s.setFrames fs := ⟨_, k5⟩
  obtain ⟨th, hth, -⟩ := State.frames_cons hf
  exact ⟨⟨rfl, hrel⟩, [], ⟨⟨_, rfl⟩, State.WarmedH.refl s, (State.sameButNew.refl s hth).setFrames fs (State.cur_lt_of_frames hf)⟩, fun q hq => nomatch hq⟩
theorem kx_e276 {a b : Int32} (s : State) (o : Outcome) (t : State) (h : Lib.MathLoose.max_int.spec.ensures #[.int a, .int b] s o t) : o = .returned (some (.int (if a < b then b else a))) ∧ t = s.setFrames t.frames := by
  obtain ⟨hpost, hsame⟩ := h
  refine ⟨?_, State.sameBut_nil.mp hsame⟩
  by_cases h1 : a < b
  · rw [if_pos h1]
    rcases o with v | y
    · rcases v with _ | w
      · simp [Lib.MathLoose.max_int.spec, Cond.after, Cond.holds, Cond.value, Term.eval, h1] at hpost
      · cases w <;> simp [Lib.MathLoose.max_int.spec, Cond.after, Cond.holds, Cond.value, Term.eval, h1] at hpost
        rename_i v
        by_cases hr : v = b <;> simp [hr] at hpost ⊢
    · simp [Lib.MathLoose.max_int.spec, Cond.after, Cond.holds, Cond.value, Term.eval, h1] at hpost
  · rw [if_neg h1]
    rcases o with v | y
    · rcases v with _ | w
      · simp [Lib.MathLoose.max_int.spec, Cond.after, Cond.holds, Cond.value, Term.eval, h1] at hpost
      · cases w <;> simp [Lib.MathLoose.max_int.spec, Cond.after, Cond.holds, Cond.value, Term.eval, h1] at hpost
        simp [hpost]
    · simp [Lib.MathLoose.max_int.spec, Cond.after, Cond.holds, Cond.value, Term.eval, h1] at hpost
theorem kx_m276 {l : Launch} {G : ka_G} {d : Nat} {as : List Value} {h h' : ka_H} {r : ka_R} (q : ka_run d 276 as h r h') : ka_Ct G l d 276 as h r h' := by
  obtain ⟨a, b, rfl, rfl, rfl⟩ := kx_276 q
  exact kx_ml (mt := 276) (cd := Lib.MathLoose.max_int.code) (Lib.MathLoose.max_int l) rfl (by unfold ka_cw; rfl) (fun s hs => by
    simp only [Lib.MathLoose.max_int.spec, Cond.before_and, Bool.and_eq_true]
    exact ⟨hs, rfl, rfl, rfl⟩) (fun s o t => kx_e276 s o t)
theorem kx_e277 {a b : Int32} (s : State) (o : Outcome) (t : State) (h : Lib.MathLoose.min_int.spec.ensures #[.int a, .int b] s o t) : o = .returned (some (.int (if b < a then b else a))) ∧ t = s.setFrames t.frames := by
  obtain ⟨hpost, hsame⟩ := h
  refine ⟨?_, State.sameBut_nil.mp hsame⟩
  by_cases h1 : b < a
  · rw [if_pos h1]
    rcases o with v | y
    · rcases v with _ | w
      · simp [Lib.MathLoose.min_int.spec, Cond.after, Cond.holds, Cond.value, Term.eval, h1] at hpost
      · cases w <;> simp [Lib.MathLoose.min_int.spec, Cond.after, Cond.holds, Cond.value, Term.eval, h1] at hpost
        rename_i v
        by_cases hr : v = b <;> simp [hr] at hpost ⊢
    · simp [Lib.MathLoose.min_int.spec, Cond.after, Cond.holds, Cond.value, Term.eval, h1] at hpost
  · rw [if_neg h1]
    rcases o with v | y
    · rcases v with _ | w
      · simp [Lib.MathLoose.min_int.spec, Cond.after, Cond.holds, Cond.value, Term.eval, h1] at hpost
      · cases w <;> simp [Lib.MathLoose.min_int.spec, Cond.after, Cond.holds, Cond.value, Term.eval, h1] at hpost
        simp [hpost]
    · simp [Lib.MathLoose.min_int.spec, Cond.after, Cond.holds, Cond.value, Term.eval, h1] at hpost
theorem kx_m277 {l : Launch} {G : ka_G} {d : Nat} {as : List Value} {h h' : ka_H} {r : ka_R} (q : ka_run d 277 as h r h') : ka_Ct G l d 277 as h r h' := by
  obtain ⟨a, b, rfl, rfl, rfl⟩ := kx_277 q
  exact kx_ml (mt := 277) (cd := Lib.MathLoose.min_int.code) (Lib.MathLoose.min_int l) rfl (by unfold ka_cw; rfl) (fun s hs => by
    simp only [Lib.MathLoose.min_int.spec, Cond.before_and, Bool.and_eq_true]
    exact ⟨hs, rfl, rfl, rfl⟩) (fun s o t => kx_e277 s o t)
theorem ka_run_snd2 {G : ka_G} {A0 : Array Value} {l : Launch} (hZ : ka_Z G A0 l) (hRows : ka_Rows) (hHs : ka_Hs2) (hKw : ka_Kw) : ∀ (d m : Nat) (as : List Value) (h : ka_H) (r : ka_R) (h' : ka_H), ka_run d m as h r h' → m < 283 → ka_Ct G l d m as h r h'
  | 0, _, _, _, _, _, q, _ => q.elim
  | d + 1, mt, as, h, r, h', ⟨⟨ha, hn⟩, n, hw⟩, hm => by
    have hKc : ka_Kc G l d (ka_run d) := fun m' as h r h' hr hlt _ => ⟨ka_run_snd2 hZ hRows hHs hKw d m' as h r h' hr hlt, ka_run_mono d m' as h r h' hr⟩
    obtain ⟨hck, hpl', hon⟩ := hHs mt hm
    rcases hpl' with hpl | rfl | rfl
    rotate_left
    · exact kx_m276 ⟨⟨ha, hn⟩, n, hw⟩
    · exact kx_m277 ⟨⟨ha, hn⟩, n, hw⟩
    have hov : G.2.2.2.2.1.category = 1 := hZ.2.2.2.2.2.2.2.2.2.2.2
    have key : vx_Met l (ka_y mt) [ka_cw mt] (ka_rm (d + 1) (h'.1 - h.1) (h'.2.1 - h.2.1)) (ka_Pc G as h) (ka_rQ G r h') (ka_rX G r h') (h'.1 - h.1) (h'.2.1 - h.2.1) (ka_A G) := by
      have body : ∀ (p : Program) (e : Env) (s : State) (m : MethodId) (args : Array Value) (below : List Frame) (meth : Method) (c : Code) (s₁ : State), BodyLoose p l (ka_y mt) (headSpec [ka_cw mt] (ka_rm (d + 1) (h'.1 - h.1) (h'.2.1 - h.2.1))) (ka_by mt) (ka_mx mt) (ka_rty mt) e s m args below meth c s₁ → c.maxLocals = ka_mx mt → c.exceptionTable.toList = tableOf (ka_hh mt) → ka_Pc G as h args s →
          W p l e (headSpec [ka_cw mt] (ka_rm (d + 1) (h'.1 - h.1) (h'.2.1 - h.2.1))).room s m args below meth c s.heap [] 0 0 (vx_MQ below (ka_rQ G r h') (ka_rX G r h') args s (h'.1 - h.1) (h'.2.1 - h.2.1) (ka_A G)) (entryFrame m args (ka_mx mt)) := by
        intro p e s m args below meth c s₁ B hml htab hP
        obtain ⟨rfl, hrel, hW⟩ := hP
        have hF : ka_F G A0 l p s m meth c mt h.1 := ⟨hZ, B.exec, B.bytes, hml, by rw [hon]; exact findClass_of_methodNamed B.named, hW, htab, B.notSynchronized, (name_of_methodNamed B.named B.method).1, hrel.1, hrel.2.2.2.1, hck, hRows mt hm⟩
        obtain ⟨ls, e1, hl, hlen⟩ := ka_entry (m := m) hov ha hn
        rw [e1]
        have := ka_wp_snd (R := (headSpec [ka_cw mt] (ka_rm (d + 1) (h'.1 - h.1) (h'.2.1 - h.2.1))).room) (e := e) (args := (as.map (ka_cv G)).toArray) (below := below) (t0 := h.2.1) hF (ka_ret_ends hF B.returns) hKc (ka_run_mono d) hKw ⟨Nat.le_refl _, Nat.le_refl _⟩ ⟨Nat.le_refl _, Nat.le_refl _⟩ n 0 _ [] h hlen hw (Nat.le_refl _) (Nat.le_refl _) s.heap [] ls hrel (fun z hz => nomatch hz) hl
        rw [Nat.sub_self, Nat.sub_self] at this
        exact this
      by_cases hh : ka_hh mt = []
      · refine vx_ofW (cc := ka_by mt) (maxL := ka_mx mt) (ret := ka_rty mt) (ws' := []) hpl (by rw [ka_cw_nil hh]) ?_
        intro p e s m args below meth c s₁ B hml ht hP
        refine body p e s m args below meth c s₁ B hml ?_ hP
        rw [hh]
        cases hq : c.exceptionTable.toList with
        | nil => rfl
        | cons x xs => exact (ht x (by rw [hq]; exact List.mem_cons_self)).elim
      · refine vx_ofWH (cc := ka_by mt) (maxL := ka_mx mt) (ret := ka_rty mt) (ws' := []) (hh := ka_hh mt) hpl (by rw [ka_cw_cons hh]) ?_
        intro p e s m args below meth c s₁ B hml hP
        refine body p e s m args below meth c s₁ B hml ?_ hP
        have h9 := atoms_spec (ws := [ka_cw mt]) B.pre _ List.mem_cons_self
        rw [ka_cw_cons hh] at h9
        exact vx_table (x := ka_y mt) B h9
    cases r with
    | inl v => exact ka_met_of_vx key
    | inr y => exact key
set_option maxHeartbeats 4000000 in
theorem kp_start2 {p : Program} {e : Env} {s : State} {m : MethodId} {below : List Frame} {meth : Method} {c : Code} {l : Launch} {b L : Nat} {xs : Nat → Int32} (hp : kp_law) (hRows : ka_Rows) (hHs : ka_Hs2) (hKw : ka_Kw) (hL : L ≤ 4096) (hl : l.stackTraces = false)
    (hx : p.tables.exec = Jvm.exec) (hb : c.code = code) (hr : meth.sig.returnType = ret) (hml : c.maxLocals = 7) (hown : s.vm.findClass R_law = some m.cls) (hts : ∀ w ∈ lw_tbl, w.before #[Value.ref b] s = true) (hX : va_X b L xs s s.heap) (hbl : b < s.heap.size) (hlocks : meth.locks = false) (hgv : (Jvm.Cond.and given_1 narrow_1).before #[Value.ref b] s = true) (hname : meth.name = x.name) (htab : c.exceptionTable.toList = []) :
    W p l e room_1 s m #[Value.ref b] below meth c s.heap [] 0 0 (lw_Z below #[Value.ref b] s) (entryFrame m ([Value.ref b] : List Value).toArray 7) := by
  obtain ⟨G, g1, g2, g4, hZ⟩ := ks_start hl hts hX hbl hgv
  obtain ⟨d, hE, hd, ⟨⟨ha, hn⟩, n, hw⟩, hc1, hc2⟩ := hp L xs hL
  obtain ⟨l1, l2, l3, l4, l5, l6⟩ := kp_l0
  have hov : G.2.2.2.2.1.category = 1 := hZ.2.2.2.2.2.2.2.2.2.2.2
  have hrel : ka_rel G (kp_h0 L xs) s.heap := by rw [← g1]; exact kp_rel g4
  have hWr : G.1.WarmedH s.vm := by rw [g1]; exact State.WarmedH.refl s
  have hF : ka_F G #[Value.ref b] l p s m meth c 0 1 := ⟨hZ, hx, by rw [l1]; exact hb, by rw [l2]; exact hml, by rw [l3]; exact hown, hWr, by rw [l5, htab]; rfl, hlocks, by rw [l4]; exact hname, hrel.1, hrel.2.2.2.1, (hHs 0 (by decide)).1, hRows 0 (by decide)⟩
  have hends : ka_ends G p l e room_1 s m #[Value.ref b] below meth c (lw_Z below #[Value.ref b] s) 1 0 0 (fun r1 h1 => r1 = .inl (some (.int 1)) ∧ h1 = hE) := by
    refine ⟨?_, ?_⟩
    · rintro w h1 ⟨e1, rfl⟩ H locs ls pc hr9 hz hcase
      injection e1 with e1
      subst e1
      have hd9 : decode code pc = .ok (.ireturn, 1) := by
        rcases hcase with ⟨h9, -⟩ | ⟨-, -, a, h9⟩ | ⟨-, -, h9⟩
        · rw [l1] at h9; exact h9
        · cases h9
        · cases h9
      have k0 := lw_ret (p := p) (l := l) (e := e) (s := s) (m := m) (below := below) (b := b) (H := H) (ls := ls) hx hb hr hlocks hd9
      have k1 := W.widen (cells := h1.1 - 1) (slots := h1.2.1 - 0) (k := 601024) (n := 7293034) (by omega) (by omega) k0
      have hz' : ∀ q ∈ locs, s.heap.size ≤ q.base := fun q hq => by
        have := hz q hq
        unfold ka_b at this
        rw [g1] at this
        exact this
      have k2 := W.forget (L := locs) hz' k1
      rw [List.nil_append] at k2
      exact k2
    · rintro ex a h1 ⟨e1, -⟩
      cases e1
  obtain ⟨ls, e1, hl9, hlen⟩ := ka_entry (m := m) hov ha hn
  have ecv : ([Value.ref 1000092] : List Value).map (ka_cv G) = [Value.ref b] := by
    show [ka_cv G (.ref 1000092)] = _
    rw [ka_cv_r, if_neg (by decide)]
    unfold ka_ad
    rw [if_neg (by decide), show 1000092 - 1000000 = 92 from rfl, g2]
  rw [ecv, l2] at e1
  rw [e1]
  have hKc : ka_Kc G l d (ka_run d) := fun m' as h r h' hr hlt _ => ⟨ka_run_snd2 hZ hRows hHs hKw d m' as h r h' hr hlt, ka_run_mono d m' as h r h' hr⟩
  exact ka_wp_snd hF hends hKc (ka_run_mono d) hKw ⟨by show hE.1 - 1 ≤ 601024; omega, by show hE.2.1 - 0 ≤ 7293034; omega⟩ ⟨by show d + 13 ≤ 2048; omega, by show 60 * d + 460 ≤ 84000; omega⟩ n 0 _ [] (kp_h0 L xs) hlen hw (Nat.le_refl _) (Nat.le_refl _) s.heap [] ls hrel (fun z hz => nomatch hz) hl9
set_option maxHeartbeats 4000000 in
theorem lw_walk2 (hp : kp_law) (hRows : ka_Rows) (hHs : ka_Hs2) (hKw : ka_Kw) {l : Launch} (hl : l.stackTraces = false) (b : Addr) (xs : List Int32) : MetFree l x (headSpec (Jvm.Cond.code x code maxLocals ret :: tables_1) room_1) (lw_P b xs) (fun _ _ _ _ _ => True) lw_Q := by
  refine MetFree.of_bodyS (code := code) (maxLocals := maxLocals) (ret := ret) (by decide) ?_ ?_
  · intro args s m h hn
    obtain ⟨meth, c, h1, h2, h3, h4, h5, h6, -, -⟩ := Cond.code_spec hn (atoms_spec (ws := Jvm.Cond.code x code maxLocals ret :: tables_1) h _ List.mem_cons_self)
    exact ⟨meth, c, h1, h2, h3, h4, h5, h6⟩
  · intro p e s m args below meth c s₁ B hml0 hP _
    obtain ⟨rfl, hx, hbd, hgv⟩ := hP
    obtain ⟨scr, harrAt, hlist, hof, hsmall⟩ := hx
    obtain ⟨hcb, hkn, -, -⟩ := State.arrayAt?_spec harrAt
    have hown : s.vm.findClass R_law = some m.cls := findClass_of_methodNamed B.named
    have hts0 : ∀ c ∈ (Jvm.Cond.code x code maxLocals ret :: tables_1), c.before #[Value.ref b] s = true := atoms_spec (ws := Jvm.Cond.code x code maxLocals ret :: tables_1) B.pre
    have hts : ∀ w ∈ lw_tbl, w.before #[Value.ref b] s = true := k2_hts_sels lw_privs (fun w hw => hts0 w (List.mem_cons_of_mem _ hw)) lw_privs_ok
    have hml : c.maxLocals = 7 := B.maxLocals_eq (hts0 _ List.mem_cons_self)
    have X₀ : Stand p l e room_1 s m #[Value.ref b] below meth c s₁ [] 0 0 := Stand.of_body B
    have hh0 : s₁.heap = s.heap := by rw [B.state]; rfl
    have hsz : scr.slots.size = xs.length := by rw [← Array.length_toList, hlist, List.length_map]
    have hval : ∀ j : Nat, j < xs.length → scr.slots[j]? = some (.int (xs.getD j 0)) := fun j hj => by
      rw [← Array.getElem?_toList, hlist]
      simp [hj]
    have hbl : b < s.heap.size := (Array.getElem?_eq_some_iff.mp hcb).1
    have hX : va_X b xs.length (fun j => xs.getD j 0) s s.heap := ⟨scr, hcb, hof, hkn, hsz, hval⟩
    have htab : c.exceptionTable.toList = [] := by
      obtain ⟨meth9, c9, h1, h2, -, -, -, -, h7, -⟩ := Cond.code_spec B.named (hts0 _ List.mem_cons_self)
      cases Option.some.inj (h1.symm.trans B.method)
      cases Option.some.inj (h2.symm.trans (Stand.of_body B).code)
      rw [Array.isEmpty_iff.mp h7]
    have K : W p l e room_1 s m #[Value.ref b] below meth c s₁.heap [] 0 0 (lw_Z below #[Value.ref b] s) (entryFrame m ([Value.ref b] : List Value).toArray 7) := by
      rw [hh0]
      exact kp_start2 hp hRows hHs hKw hbd hl B.exec B.bytes B.returns hml hown hts hX hbl B.notSynchronized hgv (name_of_methodNamed B.named B.method).1 htab
    obtain ⟨t, a1, o, b1, b2, b3⟩ := K s₁ rfl X₀
    exact ⟨t, o, a1, b1, b2, b3⟩
theorem lw_comes2 (hp : kp_law) (hRows : ka_Rows) (hHs : ka_Hs2) (hKw : ka_Kw) {l : Launch} (hl : l.stackTraces = false) : Comes l x (Jvm.Cond.code x code maxLocals ret :: tables_1) room_1 (fun tb e args s => Calls_1 tb e args s ∧ rest_1 tb e args s ∧ Pre_1 tb e args s)
    (fun _ _ args s o t => lw_Q args s o t) := by
  intro p e ha hc hk s m args below hf hfit hheap happ hpre
  obtain ⟨b, xs, hP⟩ := lw_pre_spec hpre.2.2 hpre.2.1
  obtain ⟨k, o, h1, h2, h3, hQ⟩ := lw_walk2 hp hRows hHs hKw hl b xs p e ha hc hk s m args below hf ((Spec.applies_iff_loose hf).mp happ).1 hP trivial
  exact ⟨k, o, h1, h2, h3, hQ⟩
theorem lw_limb2 (hp : kp_law) (hRows : ka_Rows) (hHs : ka_Hs2) (hKw : ka_Kw) (L : Cond) (hL : ∀ (args : Array Value) (s t : State), L.after args s (.returned (some (.int 1))) t = true) :
    ArmFor flags0 classFile x code maxLocals ret World_1 tables_1 room_1 Calls_1 rest_1 Pre_1
      (fun tb e a s o t => postC L tb e a s o t ∧ Framed s o t (fieldLocs frame_1_writes a s ++ arrayLocs frame_1_arrays a s ++ staticLocs frame_1_statics s) 601024 7293034) := by
  intro l hfl _ _ p e ha hc hk s m args below hf hfit hheap happ hpre
  have hst : l.stackTraces = false := by
    unfold Launch.stackTraces
    rw [hfl]
    exact kp_flag
  obtain ⟨k, o, h1, h2, h3, rfl, hF⟩ := lw_comes2 hp hRows hHs hKw hst p e ha hc hk s m args below hf hfit hheap happ hpre
  exact ⟨k, _, h1, h2, h3, hL args s _, lw_frame hF⟩
theorem kp_claim2 (hp : kp_law) (hRows : ka_Rows) (hHs : ka_Hs2) (hKw : ka_Kw) : Claimed_1_1 ∧ Claimed_1_2 := ⟨lw_limb2 hp hRows hHs hKw limb_1_1 (fun args s t => by simp [limb_1_1, Cond.after, Cond.holds, Cond.value]), lw_limb2 hp hRows hHs hKw limb_1_2 (fun args s t => Cond.after_iff.mpr (by
  first | (rw [show limb_1_2 = Cond.eq .result (.int 1) from rfl, Cond.eq_ints (x := 1) (y := 1) rfl rfl]; simp; done) | (simp [limb_1_2, Cond.value, Term.eval]; done)))⟩
