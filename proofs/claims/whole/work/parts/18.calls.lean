/-! ===== calls ===== -/
theorem ka_map_ret (G : ka_G) (v : Option Value) (rest : List Value) : (v.toList ++ rest).map (ka_cv G) = (v.map (ka_cv G)).toList ++ rest.map (ka_cv G) := by
  cases v <;> simp
section KG
variable {p : Program} {l : Launch} {e : Env} {R : Room} {s : State} {m : MethodId} {args : Array Value} {below : List Frame} {meth : Method} {c : Code} {Q : State → Prop} {G : ka_G} {n0 t0 pc : Nat} {L S : List Value} {h h' : ka_H} {cc : ByteArray} {A0 : Array Value} {H : Heap} {locs : List Loc} {ls : Array Slot} {rest st : List Value}
/-- behind a call that returns -/
theorem ka_go {v : Option Value} {a : Array Value} (hr : va_Run p l e R s m args below meth c H locs (h.1 - n0) (h.2.1 - t0) (h'.1 - h.1) (h'.2.1 - h.2.1) (F0 m pc ls st) (rest.map (ka_cv G)) (ka_Qc G v h' a) (ka_A G))
    (q1 : n0 ≤ h.1) (q2 : t0 ≤ h.2.1) (g1 : h.1 ≤ h'.1) (g2 : h.2.1 ≤ h'.2.1) (hz : ∀ z ∈ locs, ka_b G ≤ z.base) (hl : ka_L G ls L)
    (k : ka_W G p l e R s m args below meth c Q n0 t0 (pc + 3) L (v.toList ++ rest) h') : W p l e R s m args below meth c H locs (h.1 - n0) (h.2.1 - t0) Q (F0 m pc ls st) := by
  intro T hT X
  obtain ⟨v9, st0, t, T', L9, h0, X', hL, e1, e2, ⟨hv, hrel⟩, go⟩ := hr T hT X
  have hv9 : v9 = v.map (ka_cv G) := by injection hv
  subst hv9
  have k1 := k (Nat.le_trans q1 g1) (Nat.le_trans q2 g2) T'.heap (locs ++ L9) ls (by rw [e1]; exact hrel) (fun z hz' => by
    rcases List.mem_append.mp hz' with h9 | h9
    · exact hz z h9
    · exact hL z h9) hl
  rw [ka_map_ret] at k1
  rw [show h.1 - n0 + (h'.1 - h.1) = h'.1 - n0 by omega, show h.2.1 - t0 + (h'.2.1 - h.2.1) = h'.2.1 - t0 by omega] at X'
  obtain ⟨t2, a1, b1⟩ := k1 T' rfl X'
  exact ⟨t2, go t2 a1, b1⟩
/-- behind a call that throws -/
theorem ka_gox {ex : Nat} {a : Array Value} (hr : vx_Run p l e R s m args below meth c H locs (h.1 - n0) (h.2.1 - t0) (h'.1 - h.1) (h'.2.1 - h.2.1) (F0 m pc ls st) (rest.map (ka_cv G)) ((fun _ _ _ _ => False : Array Value → State → Outcome → State → Prop) a) (ka_XC G ex h') (ka_A G))
    (q1 : n0 ≤ h.1) (q2 : t0 ≤ h.2.1) (g1 : h.1 ≤ h'.1) (g2 : h.2.1 ≤ h'.2.1) (hz : ∀ z ∈ locs, ka_b G ≤ z.base)
    (k : ∀ (q : Addr) (ce : Cell) (H' : Heap) (locs' : List Loc), ka_rel G h' H' → (∀ z ∈ locs', ka_b G ≤ z.base) → H'[q]? = some ce → ce.vm = .none → s.vm.findClass (ka_en ex) = some ce.cls → vx_W p l e R s m args below meth c H' locs' (h'.1 - n0) (h'.2.1 - t0) Q (F0 m pc ls (rest.map (ka_cv G))) q) : W p l e R s m args below meth c H locs (h.1 - n0) (h.2.1 - t0) Q (F0 m pc ls st) := by
  intro T hT X
  rcases hr T hT X with ⟨v, st₀, t, T', L9, h0, X', hL, e1, e2, hq, go⟩ | ⟨q, st₀, t, T', L9, E, ce, h0, X', hL, e1, e2, ⟨hE, hrel⟩, hce, hcv, hcl, go⟩
  · exact hq.elim
  · subst hE
    rw [show h.1 - n0 + (h'.1 - h.1) = h'.1 - n0 by omega, show h.2.1 - t0 + (h'.2.1 - h.2.1) = h'.2.1 - t0 by omega] at X'
    obtain ⟨t2, a1, b1⟩ := k q ce T'.heap (locs ++ L9) (by rw [e1]; exact hrel) (fun z hz' => by
      rcases List.mem_append.mp hz' with h9 | h9
      · exact hz z h9
      · exact hL z h9) (by rw [e1]; exact hce) hcv hcl T' rfl X'
    exact ⟨t2, go.trans a1, b1⟩
/-- what a callee's words give at every call -/
def ka_cwo (m' : Nat) (s : State) (args : Array Value) : Prop := (ka_cw m').before args s = true ∧ (Cond.initialized (ka_y m').cls).before args s = true ∧ ((ka_y m').cls ≠ "java/lang/invoke/MethodHandle" ∧ (ka_y m').cls ≠ "java/lang/invoke/VarHandle") ∧ ka_mx m' ≤ 30
theorem ka_cw_nil {m' : Nat} (hh : ka_hh m' = []) : ka_cw m' = .code (ka_y m') (ka_by m') (ka_mx m') (ka_rty m') := by unfold ka_cw; rw [hh]
theorem ka_cw_cons {m' : Nat} (hh : ka_hh m' ≠ []) : ka_cw m' = .codeWith (ka_y m') (ka_by m') (ka_mx m') (ka_rty m') (ka_hh m') := by
  unfold ka_cw
  cases h : ka_hh m' with
  | nil => exact absurd h hh
  | cons q r => rfl
theorem ka_callB {d m' mc ms n x : Nat} {own : String} (hc : ka_cwo m' s args) (hh : ka_hh m' = []) (hR : d + 13 ≤ R.frames ∧ 60 * d + 460 ≤ R.locals) (hlen : ∀ sig, parseMethodDescriptor (ka_y m').desc = some sig → n = sig.parameters.length) (hl : (Cond.methodLink own x (ka_y m')).before args s = true) :
    CallB R s args own x (ka_y m') (ka_by m') (ka_mx m') (ka_rty m') [ka_cw m'] (ka_rm d mc ms) mc ms n := by
  obtain ⟨h1, h2, h3, h4⟩ := hc
  rw [ka_cw_nil hh] at h1
  refine ⟨rfl, rfl, hR.1, by show 8 + (ka_mx m' + 11) + (60 * d + 400) ≤ _; omega, fun w hw a' U hWU => ?_, by rw [ka_cw_nil hh]; exact List.mem_cons_self, h1, h2, h3, hlen, hl⟩
  rw [List.mem_singleton.mp hw, ka_cw_nil hh]
  exact word_at hWU (Or.inl rfl) h1
theorem ka_callN {d m' mc ms n x : Nat} {own host : String} (hc : ka_cwo m' s args) (hh : ka_hh m' = []) (hR : d + 13 ≤ R.frames ∧ 60 * d + 460 ≤ R.locals) (hlen : ∀ sig, parseMethodDescriptor (ka_y m').desc = some sig → n = sig.parameters.length) (hl : (Cond.methodLinkNest own x (ka_y m') host).before args s = true) :
    va_CN R s args own x (ka_y m') host (ka_by m') (ka_mx m') (ka_rty m') [ka_cw m'] (ka_rm d mc ms) mc ms n := by
  obtain ⟨h1, h2, h3, h4⟩ := hc
  rw [ka_cw_nil hh] at h1
  refine ⟨⟨rfl, rfl, hR.1, by show 8 + (ka_mx m' + 11) + (60 * d + 400) ≤ _; omega, fun w hw a' U hWU => ?_, by rw [ka_cw_nil hh]; exact List.mem_cons_self⟩, h1, h2, h3, hlen, hl⟩
  rw [List.mem_singleton.mp hw, ka_cw_nil hh]
  exact word_at hWU (Or.inl rfl) h1
theorem ka_preS {as : List Value} (hW : G.1.WarmedH s.vm) (hr : ka_rel G h H) : PreS s H (ka_Pc G as h) (as.map (ka_cv G)) :=
  ⟨ka_blind, fun U hU hWU => ⟨rfl, by rw [hU]; exact hr, State.WarmedH.trans hW hWU⟩⟩
theorem ka_monR {stk : List Value} (hS : (rest.map fun v => (ka_cv G v).category).sum ≤ 8) : 2 * (F0 m pc ls stk).monitorRoom + ((rest.map (ka_cv G)).map fun v => v.category).sum ≤ 8 := by
  have e8 : (F0 m pc ls stk).monitorRoom = 0 := rfl
  rw [e8, List.map_map]
  have : (List.map ((fun v => v.category) ∘ ka_cv G) rest).sum ≤ 8 := hS
  omega
/-- what is due behind a call, by how it ended -/
def ka_aftW (G : ka_G) (p : Program) (l : Launch) (e : Env) (R : Room) (s : State) (m : MethodId) (args : Array Value) (below : List Frame) (meth : Method) (c : Code) (Q : State → Prop) (n0 t0 pc : Nat) (L rest : List Value) (r : ka_R) (h' : ka_H) : Prop := match r with
  | .inl v => ka_W G p l e R s m args below meth c Q n0 t0 (pc + 3) L (v.toList ++ rest) h'
  | .inr (ex, _) => ∀ (q : Addr) (ce : Cell) (H' : Heap) (locs' : List Loc) (ls : Array Slot), ka_rel G h' H' → (∀ z ∈ locs', ka_b G ≤ z.base) → ka_L G ls L → H'[q]? = some ce → ce.vm = .none → s.vm.findClass (ka_en ex) = some ce.cls → vx_W p l e R s m args below meth c H' locs' (h'.1 - n0) (h'.2.1 - t0) Q (F0 m pc ls (rest.map (ka_cv G))) q
theorem kr_callS {d m' x : Nat} {own : String} {as : List Value} {r : ka_R} (hW : G.1.WarmedH s.vm) (hx : p.tables.exec = Jvm.exec) (hb : c.code = cc) (hml : c.maxLocals = L.length) (hd : decode cc pc = .ok (.invokestatic x, 3)) (hown : s.vm.findClass own = some m.cls)
    (hc : ka_cwo m' s args) (hl9 : (Cond.methodLink own x (ka_y m')).before args s = true) (hst : (Cond.static (ka_y m')).before args s = true) (hlen : ∀ sig, parseMethodDescriptor (ka_y m').desc = some sig → as.length = sig.parameters.length) (hR : d + 13 ≤ R.frames ∧ 60 * d + 460 ≤ R.locals)
    (hS : (rest.map fun v => (ka_cv G v).category).sum ≤ 8) (hCt : ka_Ct G l d m' as h r h') (hhx : ka_hh m' = [] ∨ ∃ v, r = .inl v) (g1 : h.1 ≤ h'.1) (g2 : h.2.1 ≤ h'.2.1) (hc9 : h'.1 - n0 ≤ R.cells) (hs9 : h'.2.1 - t0 ≤ R.slots)
    (k : ka_aftW G p l e R s m args below meth c Q n0 t0 pc L rest r h') : ka_W G p l e R s m args below meth c Q n0 t0 pc L (as.reverse ++ rest) h := by
  intro q1 q2 H locs ls hr hz hl
  have hstk : (F0 m pc ls ((as.reverse ++ rest).map (ka_cv G))).stack = (as.map (ka_cv G)).reverse ++ rest.map (ka_cv G) := by
    show (as.reverse ++ rest).map (ka_cv G) = _
    rw [List.map_append, List.map_reverse]
  have hf : h.1 - n0 + (h'.1 - h.1) ≤ R.cells ∧ h.2.1 - t0 + (h'.2.1 - h.2.1) ≤ R.slots := by omega
  cases r with
  | inl v =>
    by_cases hh : ka_hh m' = []
    · exact ka_go (va_runS (Ts := []) (n := as.length) ⟨hx, hb, hml, hown, fun w hw => nomatch hw⟩ hCt ⟨ka_callB hc hh hR hlen hl9, hst⟩ (ka_preS hW hr) rfl (by simp) hl.1 hstk (ka_monR hS) hd hf) q1 q2 g1 g2 hz hl k
    · obtain ⟨h1, h2, h3, h4⟩ := hc
      have h1' := h1
      rw [ka_cw_cons hh] at h1'
      have cw : vx_CSW R s args own x (ka_y m') (ka_by m') (ka_mx m') (ka_rty m') (ka_hh m') [ka_cw m'] (ka_rm d (h'.1 - h.1) (h'.2.1 - h.2.1)) (h'.1 - h.1) (h'.2.1 - h.2.1) as.length := by
        refine ⟨⟨rfl, rfl, hR.1, by show 8 + (ka_mx m' + 11) + (60 * d + 400) ≤ _; omega, fun w hw a' U hWU => ?_, by rw [ka_cw_cons hh]; exact List.mem_cons_self⟩, h1', h2, h3, hlen, hl9, hst⟩
        rw [List.mem_singleton.mp hw, ka_cw_cons hh]
        exact word_at hWU (Or.inl rfl) h1'
      exact ka_go (vx_runSW (Ts := []) (n := as.length) ⟨hx, hb, hml, hown, fun w hw => nomatch hw⟩ hCt cw (ka_preS hW hr) rfl (by simp) hl.1 hstk (ka_monR hS) hd hf) q1 q2 g1 g2 hz hl k
  | inr q =>
    obtain ⟨ex, a⟩ := q
    have hh : ka_hh m' = [] := by
      rcases hhx with h | ⟨v, hv⟩
      · exact h
      · cases hv
    exact ka_gox (a := #[]) (vx_runS (Ts := []) (n := as.length) ⟨hx, hb, hml, hown, fun w hw => nomatch hw⟩ hCt ⟨ka_callB hc hh hR hlen hl9, hst⟩ (ka_preS hW hr) rfl (by simp) hl.1 hstk (ka_monR hS) hd hf) q1 q2 g1 g2 hz (fun q ce H' locs' a1 a2 a3 a4 a5 => k q ce H' locs' ls a1 a2 hl a3 a4 a5)
theorem kr_callV {d m' x a : Nat} {own C : String} {as : List Value} {r : ka_R} (hW : G.1.WarmedH s.vm) (hx : p.tables.exec = Jvm.exec) (hb : c.code = cc) (hml : c.maxLocals = L.length) (hd : decode cc pc = .ok (.invokevirtual x, 3)) (hown : s.vm.findClass own = some m.cls)
    (hc : ka_cwo m' s args) (hh : ka_hh m' = []) (hl9 : (Cond.methodLink own x (ka_y m')).before args s = true ∨ ((∃ v, r = .inl v) ∧ ∃ host, (Cond.methodLinkNest own x (ka_y m') host).before args s = true)) (hin : (Cond.instanceMethod (ka_y m')).before args s = true) (hse : (Cond.selects C (ka_y m') (ka_y m')).before args s = true) (hlen : ∀ sig, parseMethodDescriptor (ka_y m').desc = some sig → as.length = sig.parameters.length) (hR : d + 13 ≤ R.frames ∧ 60 * d + 460 ≤ R.locals)
    (ha : a ≠ 0) (hrec : ∀ H, ka_rel G h H → ∃ cellB : Cell, H[ka_ad G a]? = some cellB ∧ cellB.vm.isStatics = false ∧ s.vm.findClass C = some cellB.cls)
    (hS : (rest.map fun v => (ka_cv G v).category).sum ≤ 8) (hCt : ka_Ct G l d m' (.ref a :: as) h r h') (g1 : h.1 ≤ h'.1) (g2 : h.2.1 ≤ h'.2.1) (hc9 : h'.1 - n0 ≤ R.cells) (hs9 : h'.2.1 - t0 ≤ R.slots)
    (k : ka_aftW G p l e R s m args below meth c Q n0 t0 pc L rest r h') : ka_W G p l e R s m args below meth c Q n0 t0 pc L (as.reverse ++ .ref a :: rest) h := by
  intro q1 q2 H locs ls hr hz hl
  have hstk : (F0 m pc ls ((as.reverse ++ .ref a :: rest).map (ka_cv G))).stack = (as.map (ka_cv G)).reverse ++ .ref (ka_ad G a) :: rest.map (ka_cv G) := by
    show (as.reverse ++ .ref a :: rest).map (ka_cv G) = _
    rw [List.map_append, List.map_reverse, List.map_cons, ka_cv_nz ha]
  have hf : h.1 - n0 + (h'.1 - h.1) ≤ R.cells ∧ h.2.1 - t0 + (h'.2.1 - h.2.1) ≤ R.slots := by omega
  have hp : PreV s H C (ka_ad G a) (ka_Pc G (.ref a :: as) h) (as.map (ka_cv G)) := ⟨ka_blind, hrec H hr, fun U hU hWU => ⟨by rw [List.map_cons, ka_cv_nz ha], by rw [hU]; exact hr, State.WarmedH.trans hW hWU⟩⟩
  cases r with
  | inl v =>
    rcases hl9 with hl9 | ⟨-, host, hl9⟩
    · exact ka_go (va_runV (Ts := []) (n := as.length) ⟨hx, hb, hml, hown, fun w hw => nomatch hw⟩ hCt ⟨ka_callB hc hh hR hlen hl9, hin, hse⟩ hp rfl (by simp) hl.1 hstk (ka_monR hS) hd hf) q1 q2 g1 g2 hz hl k
    · exact ka_go (va_runVN (Ts := []) (n := as.length) ⟨hx, hb, hml, hown, fun w hw => nomatch hw⟩ hCt ⟨ka_callN hc hh hR hlen hl9, hin, hse⟩ hp rfl (by simp) hl.1 hstk (ka_monR hS) hd hf) q1 q2 g1 g2 hz hl k
  | inr q =>
    obtain ⟨ex, a9⟩ := q
    rcases hl9 with hl9 | ⟨⟨v, hv⟩, -⟩
    · exact ka_gox (a := #[]) (vx_runV (Ts := []) (n := as.length) ⟨hx, hb, hml, hown, fun w hw => nomatch hw⟩ hCt ⟨ka_callB hc hh hR hlen hl9, hin, hse⟩ hp rfl (by simp) hl.1 hstk (ka_monR hS) hd hf) q1 q2 g1 g2 hz (fun q ce H' locs' a1 a2 a3 a4 a5 => k q ce H' locs' ls a1 a2 hl a3 a4 a5)
    · cases hv
theorem kr_callI {d m' x a : Nat} {own : String} {as : List Value} {v : Option Value} (hW : G.1.WarmedH s.vm) (hx : p.tables.exec = Jvm.exec) (hb : c.code = cc) (hml : c.maxLocals = L.length) (hd : decode cc pc = .ok (.invokespecial x, 3)) (hown : s.vm.findClass own = some m.cls)
    (hc : ka_cwo m' s args) (hh : ka_hh m' = []) (hrt : ka_rty m' = none) (hnm : (ka_y m').name = "<init>") (hl9 : (Cond.methodLink own x (ka_y m')).before args s = true ∨ ∃ host, (Cond.methodLinkNest own x (ka_y m') host).before args s = true) (hin : (Cond.instanceMethod (ka_y m')).before args s = true) (hlen : ∀ sig, parseMethodDescriptor (ka_y m').desc = some sig → as.length = sig.parameters.length) (hR : d + 13 ≤ R.frames ∧ 60 * d + 460 ≤ R.locals)
    (ha : a ≠ 0) (hS : (rest.map fun v => (ka_cv G v).category).sum ≤ 8) (hCt : ka_Ct G l d m' (.ref a :: as) h (.inl v) h') (g1 : h.1 ≤ h'.1) (g2 : h.2.1 ≤ h'.2.1) (hc9 : h'.1 - n0 ≤ R.cells) (hs9 : h'.2.1 - t0 ≤ R.slots)
    (k : ka_aftW G p l e R s m args below meth c Q n0 t0 pc L rest (.inl v) h') : ka_W G p l e R s m args below meth c Q n0 t0 pc L (as.reverse ++ .ref a :: rest) h := by
  intro q1 q2 H locs ls hr hz hl
  have hstk : (F0 m pc ls ((as.reverse ++ .ref a :: rest).map (ka_cv G))).stack = (as.map (ka_cv G)).reverse ++ .ref (ka_ad G a) :: rest.map (ka_cv G) := by
    show (as.reverse ++ .ref a :: rest).map (ka_cv G) = _
    rw [List.map_append, List.map_reverse, List.map_cons, ka_cv_nz ha]
  have hf : h.1 - n0 + (h'.1 - h.1) ≤ R.cells ∧ h.2.1 - t0 + (h'.2.1 - h.2.1) ≤ R.slots := by omega
  have hp : PreS s H (ka_Pc G (.ref a :: as) h) (.ref (ka_ad G a) :: as.map (ka_cv G)) := by
    have := ka_preS (s := s) (as := .ref a :: as) hW hr
    rw [List.map_cons, ka_cv_nz ha] at this
    exact this
  rcases hl9 with hl9 | ⟨host, hl9⟩
  · have cb := ka_callB (d := d) (mc := h'.1 - h.1) (ms := h'.2.1 - h.2.1) (n := as.length) hc hh hR hlen hl9
    rw [hrt] at cb
    exact ka_go (va_runI (Ts := []) (n := as.length) ⟨hx, hb, hml, hown, fun w hw => nomatch hw⟩ hCt ⟨cb, hnm, hin⟩ hp rfl (by simp) hl.1 hstk (ka_monR hS) hd hf) q1 q2 g1 g2 hz hl k
  · have cb := ka_callN (d := d) (mc := h'.1 - h.1) (ms := h'.2.1 - h.2.1) (n := as.length) hc hh hR hlen hl9
    rw [hrt] at cb
    exact ka_go (va_runIN (Ts := []) (n := as.length) ⟨hx, hb, hml, hown, fun w hw => nomatch hw⟩ hCt ⟨cb, hnm, hin⟩ hp rfl (by simp) hl.1 hstk (ka_monR hS) hd hf) q1 q2 g1 g2 hz hl k
/-- an inherited method (ordinal) -/
theorem kr_callU {d m' x a : Nat} {own C owner : String} {z : MethodName} {as : List Value} {v : Option Value} (hW : G.1.WarmedH s.vm) (hx : p.tables.exec = Jvm.exec) (hb : c.code = cc) (hml : c.maxLocals = L.length) (hd : decode cc pc = .ok (.invokevirtual x, 3)) (hown : s.vm.findClass own = some m.cls)
    (hc : ka_cwo m' s args) (hh : ka_hh m' = []) (hy : ka_y m' = ⟨owner, z.name, z.desc⟩) (hl9 : (Cond.methodLink own x z).before args s = true) (hsm : (Cond.sameMethod z.cls owner z.name z.desc).before args s = true) (hdc : (Cond.declares ⟨owner, z.name, z.desc⟩).before args s = true) (hin : (Cond.instanceMethod (ka_y m')).before args s = true) (hse : (Cond.selects C z (ka_y m')).before args s = true) (hlen : ∀ sig, parseMethodDescriptor z.desc = some sig → as.length = sig.parameters.length) (hR : d + 13 ≤ R.frames ∧ 60 * d + 460 ≤ R.locals)
    (ha : a ≠ 0) (hrec : ∀ H, ka_rel G h H → ∃ cellB : Cell, H[ka_ad G a]? = some cellB ∧ cellB.vm.isStatics = false ∧ s.vm.findClass C = some cellB.cls)
    (hS : (rest.map fun v => (ka_cv G v).category).sum ≤ 8) (hCt : ka_Ct G l d m' (.ref a :: as) h (.inl v) h') (g1 : h.1 ≤ h'.1) (g2 : h.2.1 ≤ h'.2.1) (hc9 : h'.1 - n0 ≤ R.cells) (hs9 : h'.2.1 - t0 ≤ R.slots)
    (k : ka_aftW G p l e R s m args below meth c Q n0 t0 pc L rest (.inl v) h') : ka_W G p l e R s m args below meth c Q n0 t0 pc L (as.reverse ++ .ref a :: rest) h := by
  intro q1 q2 H locs ls hr hz hl
  have hstk : (F0 m pc ls ((as.reverse ++ .ref a :: rest).map (ka_cv G))).stack = (as.map (ka_cv G)).reverse ++ .ref (ka_ad G a) :: rest.map (ka_cv G) := by
    show (as.reverse ++ .ref a :: rest).map (ka_cv G) = _
    rw [List.map_append, List.map_reverse, List.map_cons, ka_cv_nz ha]
  have hf : h.1 - n0 + (h'.1 - h.1) ≤ R.cells ∧ h.2.1 - t0 + (h'.2.1 - h.2.1) ≤ R.slots := by omega
  have hp : PreV s H C (ka_ad G a) (ka_Pc G (.ref a :: as) h) (as.map (ka_cv G)) := ⟨ka_blind, hrec H hr, fun U hU hWU => ⟨by rw [List.map_cons, ka_cv_nz ha], by rw [hU]; exact hr, State.WarmedH.trans hW hWU⟩⟩
  obtain ⟨h1, h2, h3, h4⟩ := hc
  rw [ka_cw_nil hh] at h1
  have cw : va_CU R s args own C owner x z (ka_y m') (ka_by m') (ka_mx m') (ka_rty m') [ka_cw m'] (ka_rm d (h'.1 - h.1) (h'.2.1 - h.2.1)) (h'.1 - h.1) (h'.2.1 - h.2.1) as.length := by
    refine ⟨⟨rfl, rfl, hR.1, by show 8 + (ka_mx m' + 11) + (60 * d + 400) ≤ _; omega, fun w hw a' U hWU => ?_, by rw [ka_cw_nil hh]; exact List.mem_cons_self⟩, h1, h2, by rw [hy] at h3; exact h3, hlen, hl9, hsm, va_Decl.abs (va_Nw.of rfl hdc), hse, hin⟩
    rw [List.mem_singleton.mp hw, ka_cw_nil hh]
    exact word_at hWU (Or.inl rfl) h1
  exact ka_go (va_runU (Ts := []) (n := as.length) ⟨hx, hb, hml, hown, fun w hw => nomatch hw⟩ hCt cw hp rfl (by simp) hl.1 hstk (ka_monR hS) hd hf) q1 q2 g1 g2 hz hl k
end KG
