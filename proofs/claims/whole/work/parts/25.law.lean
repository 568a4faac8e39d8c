/-! ===== THE CLAIM OUT OF ONE RUN OF THE SMALL MACHINE ===== -/
def R_law : String := "KeptAnswersLaw"
def lw_P (b : Addr) (xs : List Int32) (args : Array Value) (s : State) : Prop := args = #[.ref b] ∧ s.IntsAt b xs ∧ xs.length ≤ 4096 ∧ (Jvm.Cond.and given_1 narrow_1).before args s = true
def lw_Q (_ : Array Value) (s : State) (o : Outcome) (t : State) : Prop := o = .returned (some (.int 1)) ∧ Framed s o t [] 601024 7293034
def lw_Z (below : List Frame) (a : Array Value) (s : State) : State → Prop := fun t => ∃ o, t.status = .running ∧ Ended t below o ∧ lw_Q a s o t
theorem lw_ret {p : Program} {l : Launch} {e : Env} {s : State} {m : MethodId} {below : List Frame} {meth : Method} {c : Code} {b : Nat} (hx : p.tables.exec = Jvm.exec) (hb : c.code = code) (hr : meth.sig.returnType = ret) (hlocks : meth.locks = false) {pc : Nat} {H : Heap} {ls : Array Slot} (hdg : decode code pc = .ok (.ireturn, 1)) : W p l e room_1 s m #[Value.ref b] below meth c H [] 601024 7293034 (lw_Z below #[Value.ref b] s) (F0 m pc ls [.int 1]) := by
  intro T hT X
  obtain ⟨fs, hret, hrun, hended, hW, hframe⟩ := X.leave (v := some (.int 1)) (hlocks := hlocks) (fun h => by rw [hr] at h; cases h)
  have hmeth' : T.vm.method? m = some meth := X.method'
  refine ⟨T.setFrames fs, ?_, .returned (some (.int 1)), hrun, hended, rfl, ⟨_, rfl⟩, hW, hframe⟩
  jvm_step X.here [X.here.top, hx, hb, hdg, hmeth', hr, ret, narrow_b1]
  (try refine ⟨rfl, ?_⟩); (try refine ⟨rfl, ?_⟩)
  first | (intro acts; rw [hret _ acts rfl rfl rfl]) | rw [hret _ _ rfl rfl rfl]
  exact Steps.refl _
/-- the small heap at the start: nothing made, the statics, the script -/
def kp_sK (L i : Nat) : Nat × Nat := if i < 14 then (20, 3) else if i < 20 then (99, 0) else if i < 39 then (21, 2) else if i < 60 then (99, 0) else if i < 79 then (33, (ka_words.getD (i - 60) []).length) else if i < 90 then (99, 0) else if i = 90 then (38, 14) else if i = 91 then (40, 14) else if i = 92 then (40, L) else (99, 0)
def kp_sI (xs : Nat → Int32) (i j : Nat) : Int32 := if i < 14 then (if j = 0 then Int32.ofNat i else if j = 2 then ka_opnd.getD i 0 else 0) else if i < 60 then 0 else if i < 79 then (ka_words.getD (i - 60) []).getD j 0 else if i = 91 then ka_swm.getD j 0 else if i = 92 then xs j else 0
def kp_h0 (L : Nat) (xs : Nat → Int32) : ka_H := (1, 0, fun a => if a < 1000000 then (99, 0) else kp_sK L (a - 1000000), fun a => if a < 1000000 then fun _ => 0 else kp_sI xs (a - 1000000), fun a => if a < 1000000 then fun _ => 0 else ka_sRf (a - 1000000), fun _ _ => 0)
/-- WHAT IS LEFT: for every script the law's run in the small machine ends with true, in its room -/
def kp_law : Prop := ∀ (L : Nat) (xs : Nat → Int32), L ≤ 4096 → ∃ (d : Nat) (hE : ka_H), d ≤ 1392 ∧ ka_run (d + 1) 0 [.ref 1000092] (kp_h0 L xs) (.inl (some (.int 1))) hE ∧ hE.1 ≤ 601025 ∧ hE.2.1 ≤ 7293034
theorem kp_rel {G : ka_G} {L : Nat} {xs : Nat → Int32} (h : G.2.2.2.2.2 = (L, xs)) : ka_rel G (kp_h0 L xs) G.1.heap := by
  refine ⟨rfl, Nat.le_refl _, by show 1 ≤ 1000000; decide, fun _ _ => rfl, fun a h1 h2 => absurd h2 (by show ¬ a < 1; omega), fun a ha => ?_, fun i => ?_⟩
  · show (if a < 1000000 then ((99, 0) : Nat × Nat) else kp_sK L (a - 1000000)).1 = 99
    rw [if_pos (by omega)]
  · have e1 : ka_sK G i = kp_sK L i := by
      unfold ka_sK kp_sK
      rw [h]
    have e2 : ∀ j, ka_sIn G i j = kp_sI xs i j := fun j => by
      unfold ka_sIn kp_sI
      rw [h]
    refine ⟨?_, fun j => ⟨?_, ?_⟩⟩
    · show (if 1000000 + i < 1000000 then ((99, 0) : Nat × Nat) else kp_sK L (1000000 + i - 1000000)) = _
      rw [if_neg (by omega), Nat.add_sub_cancel_left, e1]
    · show (if 1000000 + i < 1000000 then (fun _ => (0 : Int32)) else kp_sI xs (1000000 + i - 1000000)) j = _
      rw [if_neg (by omega), Nat.add_sub_cancel_left, e2]
    · show (if 1000000 + i < 1000000 then (fun _ => (0 : Nat)) else ka_sRf (1000000 + i - 1000000)) j = _
      rw [if_neg (by omega), Nat.add_sub_cancel_left]
theorem kp_l0 : ka_by 0 = code ∧ ka_mx 0 = 7 ∧ ka_on (ka_own 0) = "KeptAnswersLaw" ∧ (ka_y 0).name = x.name ∧ ka_hh 0 = [] ∧ maxLocals = 7 := ⟨rfl, by decide +kernel, by decide +kernel, by decide +kernel, by decide +kernel, rfl⟩
set_option maxHeartbeats 4000000 in
theorem kp_start {p : Program} {e : Env} {s : State} {m : MethodId} {below : List Frame} {meth : Method} {c : Code} {l : Launch} {b L : Nat} {xs : Nat → Int32} (hp : kp_law) (hRows : ka_Rows) (hHs : ka_Hs) (hKw : ka_Kw) (hL : L ≤ 4096) (hl : l.stackTraces = false)
    (hx : p.tables.exec = Jvm.exec) (hb : c.code = code) (hr : meth.sig.returnType = ret) (hml : c.maxLocals = 7) (hown : s.vm.findClass R_law = some m.cls) (hts : ∀ w ∈ lw_tbl, w.before #[Value.ref b] s = true) (hX : va_X b L xs s s.heap) (hbl : b < s.heap.size) (hlocks : meth.locks = false) (hgv : (Jvm.Cond.and given_1 narrow_1).before #[Value.ref b] s = true) (hname : meth.name = x.name) (htab : c.exceptionTable.toList = []) :
    W p l e room_1 s m #[Value.ref b] below meth c s.heap [] 0 0 (lw_Z below #[Value.ref b] s) (entryFrame m ([Value.ref b] : List Value).toArray 7) := by
  obtain ⟨G, g1, g2, g4, hZ⟩ := ks_start hl hts hX hbl hgv
  obtain ⟨d, hE, hd, ⟨⟨ha, hn⟩, n, hw⟩, hc1, hc2⟩ := hp L xs hL
  obtain ⟨l1, l2, l3, l4, l5, l6⟩ := kp_l0
  have hov : G.2.2.2.2.1.category = 1 := hZ.2.2.2.2.2.2.2.2.2.2.2
  have hrel : ka_rel G (kp_h0 L xs) s.heap := by rw [← g1]; exact kp_rel g4
  have hWr : G.1.WarmedH s.vm := by rw [g1]; exact State.WarmedH.refl s
  have hF : ka_F G #[Value.ref b] l p s m meth c 0 1 := ⟨hZ, hx, by rw [l1]; exact hb, by rw [l2]; exact hml, by rw [l3]; exact hown, hWr, by rw [l5, htab]; rfl, hlocks, by rw [l4]; exact hname, hrel.1, hrel.2.2.2.1, (hHs 0 (by decide)).1, hRows 0 (by decide)⟩
  have hends : ka_ends G p l e room_1 s m #[Value.ref b] below meth c (lw_Z below #[Value.ref b] s) 1 0 0 (fun r1 h1 => r1 = .inl (some (.int 1)) ∧ h1 = hE) := by
    refine ⟨?_, ?_⟩
    · rintro w h1 ⟨e1, rfl⟩ H locs ls pc hr9 hz hcase
      injection e1 with e1
      subst e1
      have hd9 : decode code pc = .ok (.ireturn, 1) := by
        rcases hcase with ⟨h9, -⟩ | ⟨-, -, a, h9⟩ | ⟨-, -, h9⟩
        · rw [l1] at h9; exact h9
        · cases h9
        · cases h9
      have k0 := lw_ret (p := p) (l := l) (e := e) (s := s) (m := m) (below := below) (b := b) (H := H) (ls := ls) hx hb hr hlocks hd9
      have k1 := W.widen (cells := h1.1 - 1) (slots := h1.2.1 - 0) (k := 601024) (n := 7293034) (by omega) (by omega) k0
      have hz' : ∀ q ∈ locs, s.heap.size ≤ q.base := fun q hq => by
        have := hz q hq
        unfold ka_b at this
        rw [g1] at this
        exact this
      have k2 := W.forget (L := locs) hz' k1
      rw [List.nil_append] at k2
      exact k2
    · rintro ex a h1 ⟨e1, -⟩
      cases e1
  obtain ⟨ls, e1, hl9, hlen⟩ := ka_entry (m := m) hov ha hn
  have ecv : ([Value.ref 1000092] : List Value).map (ka_cv G) = [Value.ref b] := by
    show [ka_cv G (.ref 1000092)] = _
    rw [ka_cv_r, if_neg (by decide)]
    unfold ka_ad
    rw [if_neg (by decide), show 1000092 - 1000000 = 92 from rfl, g2]
  rw [ecv, l2] at e1
  rw [e1]
  have hKc : ka_Kc G l d (ka_run d) := fun m' as h r h' hr hlt _ => ⟨ka_run_snd hZ hRows hHs hKw d m' as h r h' hr hlt, ka_run_mono d m' as h r h' hr⟩
  exact ka_wp_snd hF hends hKc (ka_run_mono d) hKw ⟨by show hE.1 - 1 ≤ 601024; omega, by show hE.2.1 - 0 ≤ 7293034; omega⟩ ⟨by show d + 13 ≤ 2048; omega, by show 60 * d + 460 ≤ 84000; omega⟩ n 0 _ [] (kp_h0 L xs) hlen hw (Nat.le_refl _) (Nat.le_refl _) s.heap [] ls hrel (fun z hz => nomatch hz) hl9
set_option maxHeartbeats 4000000 in
theorem lw_walk (hp : kp_law) (hRows : ka_Rows) (hHs : ka_Hs) (hKw : ka_Kw) {l : Launch} (hl : l.stackTraces = false) (b : Addr) (xs : List Int32) : MetFree l x (headSpec (Jvm.Cond.code x code maxLocals ret :: tables_1) room_1) (lw_P b xs) (fun _ _ _ _ _ => True) lw_Q := by
  refine MetFree.of_bodyS (code := code) (maxLocals := maxLocals) (ret := ret) (by decide) ?_ ?_
  · intro args s m h hn
    obtain ⟨meth, c, h1, h2, h3, h4, h5, h6, -, -⟩ := Cond.code_spec hn (atoms_spec (ws := Jvm.Cond.code x code maxLocals ret :: tables_1) h _ List.mem_cons_self)
    exact ⟨meth, c, h1, h2, h3, h4, h5, h6⟩
  · intro p e s m args below meth c s₁ B hml0 hP _
    obtain ⟨rfl, hx, hbd, hgv⟩ := hP
    obtain ⟨scr, harrAt, hlist, hof, hsmall⟩ := hx
    obtain ⟨hcb, hkn, -, -⟩ := State.arrayAt?_spec harrAt
    have hown : s.vm.findClass R_law = some m.cls := findClass_of_methodNamed B.named
    have hts0 : ∀ c ∈ (Jvm.Cond.code x code maxLocals ret :: tables_1), c.before #[Value.ref b] s = true := atoms_spec (ws := Jvm.Cond.code x code maxLocals ret :: tables_1) B.pre
    have hts : ∀ w ∈ lw_tbl, w.before #[Value.ref b] s = true := k2_hts_sels lw_privs (fun w hw => hts0 w (List.mem_cons_of_mem _ hw)) lw_privs_ok
    have hml : c.maxLocals = 7 := B.maxLocals_eq (hts0 _ List.mem_cons_self)
    have X₀ : Stand p l e room_1 s m #[Value.ref b] below meth c s₁ [] 0 0 := Stand.of_body B
    have hh0 : s₁.heap = s.heap := by rw [B.state]; rfl
    have hsz : scr.slots.size = xs.length := by rw [← Array.length_toList, hlist, List.length_map]
    have hval : ∀ j : Nat, j < xs.length → scr.slots[j]? = some (.int (xs.getD j 0)) := fun j hj => by
      rw [← Array.getElem?_toList, hlist]
      simp [hj]
    have hbl : b < s.heap.size := (Array.getElem?_eq_some_iff.mp hcb).1
    have hX : va_X b xs.length (fun j => xs.getD j 0) s s.heap := ⟨scr, hcb, hof, hkn, hsz, hval⟩
    have htab : c.exceptionTable.toList = [] := by
      obtain ⟨meth9, c9, h1, h2, -, -, -, -, h7, -⟩ := Cond.code_spec B.named (hts0 _ List.mem_cons_self)
      cases Option.some.inj (h1.symm.trans B.method)
      cases Option.some.inj (h2.symm.trans (Stand.of_body B).code)
      rw [Array.isEmpty_iff.mp h7]
    have K : W p l e room_1 s m #[Value.ref b] below meth c s₁.heap [] 0 0 (lw_Z below #[Value.ref b] s) (entryFrame m ([Value.ref b] : List Value).toArray 7) := by
      rw [hh0]
      exact kp_start hp hRows hHs hKw hbd hl B.exec B.bytes B.returns hml hown hts hX hbl B.notSynchronized hgv (name_of_methodNamed B.named B.method).1 htab
    obtain ⟨t, a1, o, b1, b2, b3⟩ := K s₁ rfl X₀
    exact ⟨t, o, a1, b1, b2, b3⟩
theorem lw_pre_spec {args : Array Value} {s : State} (h : (Jvm.Cond.and given_1 narrow_1).before args s = true) (hr : rest_1_c.before args s = true) : ∃ (b : Addr) (xs : List Int32), lw_P b xs args s := by
  have hs := flat_of_before _ h
  have hq := flat_of_before _ hr
  have hc : (Cond.count 1).before args s = true := hs _ (by decide +kernel)
  have harr : (Cond.arrayOf (.arg 0) .int).before args s = true := hs _ (by decide +kernel)
  have hle : (Cond.le (.length (.arg 0)) (.int 4096)).before args s = true := hs _ (by decide +kernel)
  have hlen : (Cond.isInt (.length (.arg 0))).before args s = true := hq _ (by decide +kernel)
  have hall : (Cond.all (.arg 0) (.isInt (.elem (.arg 0) (.index 0)))).before args s = true := hq _ (by decide +kernel)
  obtain ⟨b, xs, hb, hx⟩ := State.ints_of_pre rfl harr hlen hall
  have hsm : xs.length < 2 ^ 31 := hx.choose_spec.2.2.2
  have hev : (Term.length (.arg 0)).eval args s none [] s = some (.int xs.length.toInt32) := hx.length_eval hb
  have hv := Cond.le_ints hev (show (Term.int 4096).eval args s none [] s = some (.int 4096) from rfl)
  have hd : xs.length.toInt32 ≤ 4096 := by
    simpa [Cond.before, Cond.holds, hv] using hle
  have hN : xs.length ≤ 4096 := (Int32.ofNat_le_ofNat hsm (by decide)).mp (show Int32.ofNat xs.length ≤ Int32.ofNat 4096 from hd)
  exact ⟨b, xs, Cond.one_arg hc (show args[0]? = some (.ref b) from hb), hx, hN, h⟩
theorem lw_comes (hp : kp_law) (hRows : ka_Rows) (hHs : ka_Hs) (hKw : ka_Kw) {l : Launch} (hl : l.stackTraces = false) : Comes l x (Jvm.Cond.code x code maxLocals ret :: tables_1) room_1 (fun tb e args s => Calls_1 tb e args s ∧ rest_1 tb e args s ∧ Pre_1 tb e args s)
    (fun _ _ args s o t => lw_Q args s o t) := by
  intro p e ha hc hk s m args below hf hfit hheap happ hpre
  obtain ⟨b, xs, hP⟩ := lw_pre_spec hpre.2.2 hpre.2.1
  obtain ⟨k, o, h1, h2, h3, hQ⟩ := lw_walk hp hRows hHs hKw hl b xs p e ha hc hk s m args below hf ((Spec.applies_iff_loose hf).mp happ).1 hP trivial
  exact ⟨k, o, h1, h2, h3, hQ⟩
theorem lw_frame {s t : State} {o : Outcome} {args : Array Value} (h : Framed s o t [] 601024 7293034) :
    Framed s o t (fieldLocs frame_1_writes args s ++ arrayLocs frame_1_arrays args s ++ staticLocs frame_1_statics s) 601024 7293034 := h
theorem kp_flag : (!flags0.contains noTraceFlag) = false := by decide +kernel
theorem lw_limb (hp : kp_law) (hRows : ka_Rows) (hHs : ka_Hs) (hKw : ka_Kw) (L : Cond) (hL : ∀ (args : Array Value) (s t : State), L.after args s (.returned (some (.int 1))) t = true) :
    ArmFor flags0 classFile x code maxLocals ret World_1 tables_1 room_1 Calls_1 rest_1 Pre_1
      (fun tb e a s o t => postC L tb e a s o t ∧ Framed s o t (fieldLocs frame_1_writes a s ++ arrayLocs frame_1_arrays a s ++ staticLocs frame_1_statics s) 601024 7293034) := by
  intro l hfl _ _ p e ha hc hk s m args below hf hfit hheap happ hpre
  have hst : l.stackTraces = false := by
    unfold Launch.stackTraces
    rw [hfl]
    exact kp_flag
  obtain ⟨k, o, h1, h2, h3, rfl, hF⟩ := lw_comes hp hRows hHs hKw hst p e ha hc hk s m args below hf hfit hheap happ hpre
  exact ⟨k, _, h1, h2, h3, hL args s _, lw_frame hF⟩
theorem kp_claim (hp : kp_law) (hRows : ka_Rows) (hHs : ka_Hs) (hKw : ka_Kw) : Claimed_1_1 ∧ Claimed_1_2 := ⟨lw_limb hp hRows hHs hKw limb_1_1 (fun args s t => by simp [limb_1_1, Cond.after, Cond.holds, Cond.value]), lw_limb hp hRows hHs hKw limb_1_2 (fun args s t => Cond.after_iff.mpr (by
  first | (rw [show limb_1_2 = Cond.eq .result (.int 1) from rfl, Cond.eq_ints (x := 1) (y := 1) rfl rfl]; simp; done) | (simp [limb_1_2, Cond.value, Term.eval]; done)))⟩
