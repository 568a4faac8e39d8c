/-! ===== THE STEP: what the small machine does, the machine does ===== -/
theorem ka_oin : Cond.instanceMethod Lib.objectInit ∈ lw_tbl ∧ Cond.code Lib.objectInit ⟨#[0xb1]⟩ 1 none ∈ lw_tbl := by decide +kernel
theorem ka_cin : Cond.native arraycopyName ∈ lw_tbl ∧ Cond.static arraycopyName ∈ lw_tbl ∧ Cond.initialized "java/lang/System" ∈ lw_tbl := by decide +kernel
theorem ka_nin : Cond.sameMethod "[I" "java/lang/Object" "clone" "()Ljava/lang/Object;" ∈ lw_tbl ∧ Cond.native ⟨"java/lang/Object", "clone", "()Ljava/lang/Object;"⟩ ∈ lw_tbl ∧ Cond.instanceMethod ⟨"java/lang/Object", "clone", "()Ljava/lang/Object;"⟩ ∈ lw_tbl ∧ Cond.selects "[I" ⟨"[I", "clone", "()Ljava/lang/Object;"⟩ ⟨"java/lang/Object", "clone", "()Ljava/lang/Object;"⟩ ∈ lw_tbl ∧ Cond.castable "[I" "java/lang/Cloneable" ∈ lw_tbl := by decide +kernel
section KS
variable {p : Program} {l : Launch} {e : Env} {R : Room} {s : State} {m : MethodId} {args : Array Value} {below : List Frame} {meth : Method} {c : Code} {Q : State → Prop} {G : ka_G} {A0 : Array Value} {mt n0 t0 pc d : Nat} {L S : List Value} {h : ka_H} {Rr : ka_R → ka_H → Prop} {k : ka_C} {call : Nat → List Value → ka_H → ka_R → ka_H → Prop}
/-- what is known of the continuation -/
def ka_Kk (G : ka_G) (p : Program) (l : Launch) (e : Env) (R : Room) (s : State) (m : MethodId) (args : Array Value) (below : List Frame) (meth : Method) (c : Code) (Q : State → Prop) (n0 t0 mt : Nat) (k : ka_C) : Prop := ∀ (pc : Nat) (L S : List Value) (h : ka_H), k pc L S h → L.length = ka_mx mt → (h.1 - n0 ≤ R.cells ∧ h.2.1 - t0 ≤ R.slots) ∧ ka_W G p l e R s m args below meth c Q n0 t0 pc L S h
/-- what is known of calls -/
def ka_Kc (G : ka_G) (l : Launch) (d : Nat) (call : Nat → List Value → ka_H → ka_R → ka_H → Prop) : Prop := ∀ (m' : Nat) (as : List Value) (h : ka_H) (r : ka_R) (h' : ka_H), call m' as h r h' → m' < 283 → 1 ≤ m' → ka_Ct G l d m' as h r h' ∧ h.1 ≤ h'.1 ∧ h.2.1 ≤ h'.2.1
def ka_Kw : Prop := ∀ m', 1 ≤ m' → m' < 283 → lw_tbl[ka_ic m']? = some (ka_cw m')
theorem ka_cwo_of (hZw : ka_Zw G A0) (hW : G.1.WarmedH s.vm) (hKw : ka_Kw) {m' na : Nat} (hc : ka_ckm m' na = true) : ka_cwo m' s args ∧ (1 ≤ m' ∧ m' < 283) ∧ ∀ sig, parseMethodDescriptor (ka_y m').desc = some sig → na = sig.parameters.length := by
  simp only [ka_ckm, Bool.and_eq_true, decide_eq_true_eq] at hc
  obtain ⟨⟨⟨⟨⟨⟨h1, h2⟩, h3⟩, h4⟩, h5⟩, h6⟩, h7⟩ := hc
  refine ⟨⟨?_, ka_h_at hZw hW h1, ⟨h2, h3⟩, h4⟩, ⟨h5, h6⟩, fun sig hs => ?_⟩
  · refine ka_mv hW ?_ (hZw _ (List.mem_of_getElem? (hKw m' h5 h6)))
    unfold ka_cw
    split <;> rfl
  · rw [hs] at h7
    exact (Option.some.inj h7).symm
theorem ka_cat_of {rest : List Value} (hov : G.2.2.2.2.1.category = 1) (h : ka_cat rest) : (rest.map fun v => (ka_cv G v).category).sum ≤ 8 := by
  have e : rest.map (fun v => (ka_cv G v).category) = rest.map (fun v => v.category) := by
    apply List.map_congr_left
    intro v _
    cases v with
    | ref a =>
      rw [ka_cv_r]
      by_cases e : a = 0
      · rw [if_pos e]; rfl
      · rw [if_neg e]; rfl
    | float b => exact hov
    | _ => rfl
  rw [e]
  exact h
theorem ka_rec {a ci : Nat} (hZc : ka_Zc G) (hZo : ka_Zo G) (hW : G.1.WarmedH s.vm) (hk : (ka_K h a).1 = ci) (hci : ci < 10 ∨ ci = 20 ∨ ci = 21) (H : Heap) (hr : ka_rel G h H) : a ≠ 0 ∧ ∃ cellB : Cell, H[ka_ad G a]? = some cellB ∧ cellB.vm.isStatics = false ∧ s.vm.findClass (ka_rc ci) = some cellB.cls := by
  subst hk
  rcases hci with hci | hci
  · obtain ⟨a1, a2, cell, o1, o2, o3, o4⟩ := ka_ownO hr hci
    refine ⟨by omega, cell, o1, by rw [o3]; rfl, ?_⟩
    have := (u_Kn_moved hW.alike (hZc _ hci)).2.1
    unfold ka_rc
    rw [if_pos hci, o2]
    exact this
  · obtain ⟨i, ha, e1, e2, e3⟩ := ka_sobj (a := a) hr (by omega)
    obtain ⟨⟨cell, h1, h2, h3, h4⟩, -⟩ := hZo i (by omega)
    refine ⟨by omega, cell, by rw [e2, hr.2.2.2.1 _ (Nat.not_le.mp h4)]; exact h1, h2, ?_⟩
    rw [hW.alike.findClass]
    unfold ka_rc
    unfold ka_soC at h3
    rcases e3 with ⟨z1, z2, -⟩ | ⟨z1, z2, z3, -⟩
    · rw [if_neg (by omega), if_pos z2]; rw [if_pos z1] at h3; exact h3
    · rw [if_neg (by omega), if_neg (by omega)]; rw [if_neg (by omega)] at h3; exact h3
theorem ka_nth_split : ∀ (S : List Value) (n : Nat) (w : Value), ka_nth S n = w → w ≠ .retAddr 0 → S = S.take n ++ w :: S.drop (n + 1)
  | [], _, _, h, h2 => absurd h.symm h2
  | v :: l, 0, w, h, _ => by have h : v = w := h; rw [h]; rfl
  | v :: l, n + 1, w, h, h2 => by
    have := ka_nth_split l n w h h2
    show v :: l = v :: (l.take n ++ w :: l.drop (n + 1))
    rw [← this]
theorem ka_take_nth {S : List Value} {n : Nat} {w : Value} (h : ka_nth S n = w) (h2 : w ≠ .retAddr 0) : (S.take (n + 1)).reverse = w :: (S.take n).reverse := by
  have e := ka_nth_split S n w h h2
  have hl : n < S.length := by
    refine Classical.byContradiction fun hn => ?_
    rw [ka_nth_out S n (by omega)] at h
    exact h2 h.symm
  have e2 : S.take (n + 1) = S.take n ++ [w] := by
    have hlen : (S.take n).length = n := by rw [List.length_take]; omega
    conv => lhs; rw [e]
    rw [List.take_append, hlen, List.take_of_length_le (by omega), show n + 1 - n = 1 by omega]
    rfl
  rw [e2, List.reverse_append]
  rfl
theorem ka_inv_snd (hF : ka_F G A0 l p s m meth c mt n0) (hE : ka_ends G p l e R s m args below meth c Q n0 t0 mt Rr) (hKk : ka_Kk G p l e R s m args below meth c Q n0 t0 mt k) (hKc : ka_Kc G l d call) (hKw : ka_Kw) (hKr : ∀ r h1, Rr r h1 → h1.1 - n0 ≤ R.cells ∧ h1.2.1 - t0 ≤ R.slots) (hR : d + 13 ≤ R.frames ∧ 60 * d + 460 ≤ R.locals) (hL : L.length = ka_mx mt)
    {i : Instr} {x : Nat} {q : List Nat} (hd : decode (ka_by mt) pc = .ok (i, 3)) (hi : i = .invokevirtual x ∨ i = .invokestatic x ∨ i = .invokespecial x) (hck : ka_cki (ka_own mt) x q = true) (hct : ka_ckt i q = true) (hst : ka_inv call (ka_hs mt) pc 3 q L S h k Rr) : ka_W G p l e R s m args below meth c Q n0 t0 pc L S h := by
  have hF' := hF
  obtain ⟨⟨hZw, hZc, hZa, hZs, hZo, hZg, hZt, hZx, hZq, hlt, hZn, hov⟩, hx, hb, hml, hown, hW, htab, hlocks, hname, hsz, hold, hckh, hrow⟩ := hF
  have hmlL : c.maxLocals = L.length := by rw [hml, hL]
  -- what is due behind a call that may throw
  have aft : ∀ (rest : List Value) (r : ka_R) (h' : ka_H), n0 ≤ h'.1 → t0 ≤ h'.2.1 → ka_aft (ka_hs mt) pc 3 L rest k Rr r h' → (h'.1 - n0 ≤ R.cells ∧ h'.2.1 - t0 ≤ R.slots) ∧ ka_aftW G p l e R s m args below meth c Q n0 t0 pc L rest r h' := by
    intro rest r h' g1 g2 ha
    cases r with
    | inl v =>
      cases v with
      | none => have := hKk _ _ _ _ ha hL; exact ⟨this.1, this.2⟩
      | some w => have := hKk _ _ _ _ ha hL; exact ⟨this.1, this.2⟩
    | inr y =>
      obtain ⟨ex, a⟩ := y
      unfold ka_aft at ha
      simp only at ha
      cases hbl : Nat.blt ex 4 with
      | false => rw [hbl] at ha; exact ha.elim
      | true =>
        rw [hbl] at ha
        simp only [cond_true] at ha
        have e5 : ex < 4 := Nat.lt_succ_of_le (by simpa [Nat.blt, Nat.ble_eq] using hbl)
        cases hfh : ka_fh (ka_hs mt) pc ex with
        | none =>
          rw [hfh] at ha
          exact ⟨hKr _ _ ha, ka_exc hF' hE hL e5 g1 g2 (by rw [hfh]; exact ha)⟩
        | some y =>
          obtain ⟨lc, t⟩ := y
          rw [hfh] at ha
          have := hKk _ _ _ _ ha (by rw [ka_len_set]; exact hL)
          exact ⟨this.1, ka_exc (a := a) hF' hE hL e5 g1 g2 (by rw [hfh]; exact this.2)⟩
  have aftn : ∀ (rest : List Value) (v : Option Value) (h' : ka_H), (match v with | none => k (pc + 3) L rest h' | some w => k (pc + 3) L (w :: rest) h') → (h'.1 - n0 ≤ R.cells ∧ h'.2.1 - t0 ≤ R.slots) ∧ ka_aftW G p l e R s m args below meth c Q n0 t0 pc L rest (.inl v) h' := by
    intro rest v h' ha
    cases v with
    | none => have := hKk _ _ _ _ ha hL; exact ⟨this.1, this.2⟩
    | some w => have := hKk _ _ _ _ ha hL; exact ⟨this.1, this.2⟩
  unfold ka_inv at hst
  split at hst
  · -- 6: virtual
    rename_i m' na ci
    split at hst
    · rename_i a hn
      obtain ⟨hk, hst⟩ := hst
      obtain ⟨hok, r, h', hcl, haf⟩ := ka_cond hst
      obtain ⟨hnl, hcat⟩ := ka_okn_cat _ _ hok
      simp only [ka_cki, Bool.and_eq_true, decide_eq_true_eq] at hck
      obtain ⟨⟨⟨⟨⟨k1, k2⟩, k3⟩, k4⟩, k5⟩, k6⟩ := hck
      obtain ⟨hcw, hrg, hlen⟩ := ka_cwo_of (args := args) hZw hW hKw k1
      rw [ka_take_nth hn (by simp)] at hcl
      obtain ⟨hCt, g1, g2⟩ := hKc _ _ _ _ _ hcl hrg.2 hrg.1
      rcases hi with rfl | rfl | rfl
      · have hln : na < S.length := by
          refine Classical.byContradiction fun hnn => ?_
          rw [ka_nth_out S na (by omega)] at hn
          cases hn
        rw [ka_nth_split S na _ hn (by simp)]
        intro q1 q2
        obtain ⟨hb9, hA9⟩ := aft (S.drop (na + 1)) r h' (Nat.le_trans q1 g1) (Nat.le_trans q2 g2) haf
        have hW9 : ∀ H locs ls, ka_rel G h H → (∀ z ∈ locs, ka_b G ≤ z.base) → ka_L G ls L → W p l e R s m args below meth c H locs (h.1 - n0) (h.2.1 - t0) Q (F0 m pc ls (((S.take na) ++ .ref a :: S.drop (na + 1)).map (ka_cv G))) := by
          intro H locs ls hr hz hl
          have hrec := fun H hr => ka_rec (s := s) (h := h) (a := a) hZc hZo hW hk (by omega) H hr
          have := kr_callV (d := d) (m' := m') (x := x) (a := a) (C := ka_rc ci) (as := (S.take na).reverse) (rest := S.drop (na + 1)) (n0 := n0) (t0 := t0) hW hx hb hmlL hd hown hcw k2 (Or.inl (ka_h_at hZw hW k4)) (ka_h_at hZw hW k5) (ka_h_at hZw hW k6) (fun sig hs => by rw [List.length_reverse, List.length_take, Nat.min_eq_left (by omega)]; exact hlen sig hs) hR (hrec H hr).1 (fun H hr => (hrec H hr).2) (ka_cat_of hov hcat) hCt g1 g2 hb9.1 hb9.2 hA9 q1 q2 H locs ls hr hz hl
          rw [List.reverse_reverse] at this
          exact this
        exact hW9
      · simp [ka_ckt] at hct
      · simp [ka_ckt] at hct
    · exact hst.elim
  · -- 7: static
    rename_i m' na
    obtain ⟨hok, r, h', hcl, haf⟩ := ka_cond hst
    obtain ⟨hnl, hcat⟩ := ka_okn_cat _ _ hok
    simp only [ka_cki, Bool.and_eq_true, decide_eq_true_eq] at hck
    obtain ⟨⟨⟨k1, k2⟩, k4⟩, k5⟩ := hck
    obtain ⟨hcw, hrg, hlen⟩ := ka_cwo_of (args := args) hZw hW hKw k1
    obtain ⟨hCt, g1, g2⟩ := hKc _ _ _ _ _ hcl hrg.2 hrg.1
    rcases hi with rfl | rfl | rfl
    · simp [ka_ckt] at hct
    · intro q1 q2 H locs ls hr hz hl
      obtain ⟨hb9, hA9⟩ := aft (S.drop na) r h' (Nat.le_trans q1 g1) (Nat.le_trans q2 g2) haf
      have := kr_callS (d := d) (m' := m') (x := x) (as := (S.take na).reverse) (rest := S.drop na) (n0 := n0) (t0 := t0) hW hx hb hmlL hd hown hcw (ka_h_at hZw hW k4) (ka_h_at hZw hW k5) (fun sig hs => by rw [List.length_reverse, List.length_take, Nat.min_eq_left hnl]; exact hlen sig hs) hR (ka_cat_of hov hcat) hCt (Or.inl k2) g1 g2 hb9.1 hb9.2 hA9 q1 q2 H locs ls hr hz hl
      rw [List.reverse_reverse, List.take_append_drop] at this
      exact this
    · simp [ka_ckt] at hct
  · -- 8: a constructor
    rename_i m' na
    split at hst
    · rename_i a hn
      obtain ⟨ha0, hst⟩ := hst
      obtain ⟨hok, v, h', hcl, haf⟩ := ka_cond hst
      obtain ⟨hnl, hcat⟩ := ka_okn_cat _ _ hok
      simp only [ka_cki, Bool.and_eq_true, Bool.or_eq_true, decide_eq_true_eq] at hck
      obtain ⟨⟨⟨⟨⟨k1, k2⟩, k4⟩, k5⟩, k6⟩, k7⟩ := hck
      obtain ⟨hcw, hrg, hlen⟩ := ka_cwo_of (args := args) hZw hW hKw k1
      rw [ka_take_nth hn (by simp)] at hcl
      obtain ⟨hCt, g1, g2⟩ := hKc _ _ _ _ _ hcl hrg.2 hrg.1
      have hl9 : (Cond.methodLink (ka_on (ka_own mt)) x (ka_y m')).before args s = true ∨ ∃ host, (Cond.methodLinkNest (ka_on (ka_own mt)) x (ka_y m') host).before args s = true := by
        rcases k4 with k4 | k4
        · exact Or.inl (ka_h_at hZw hW k4)
        · exact Or.inr ⟨"KeptAnswers", va_Nw.use rfl (va_Nw.warmM hW (va_Nw.of rfl (hZw _ (ka_hm_mem k4))))⟩
      rcases hi with rfl | rfl | rfl
      · simp [ka_ckt] at hct
      · simp [ka_ckt] at hct
      · rw [ka_nth_split S na _ hn (by simp)]
        intro q1 q2 H locs ls hr hz hl
        obtain ⟨hb9, hA9⟩ := aftn (S.drop (na + 1)) v h' haf
        have := kr_callI (d := d) (m' := m') (x := x) (a := a) (as := (S.take na).reverse) (rest := S.drop (na + 1)) (n0 := n0) (t0 := t0) hW hx hb hmlL hd hown hcw k2 k7 k6 hl9 (ka_h_at hZw hW k5) (fun sig hs => by rw [List.length_reverse, List.length_take, Nat.min_eq_left (by omega)]; exact hlen sig hs) hR ha0 (ka_cat_of hov hcat) hCt g1 g2 hb9.1 hb9.2 hA9 q1 q2 H locs ls hr hz hl
        rw [List.reverse_reverse] at this
        exact this
    · exact hst.elim
  · -- 22: virtual, doesn't throw
    rename_i m' na ci
    split at hst
    · rename_i a hn
      obtain ⟨hk, hst⟩ := hst
      obtain ⟨hok, v, h', hcl, haf⟩ := ka_cond hst
      obtain ⟨hnl, hcat⟩ := ka_okn_cat _ _ hok
      simp only [ka_cki, Bool.and_eq_true, Bool.or_eq_true, decide_eq_true_eq] at hck
      obtain ⟨⟨⟨k1, k2⟩, k5⟩, k6⟩ := hck
      obtain ⟨hcw, hrg, hlen⟩ := ka_cwo_of (args := args) hZw hW hKw k1
      rw [ka_take_nth hn (by simp)] at hcl
      obtain ⟨hCt, g1, g2⟩ := hKc _ _ _ _ _ hcl hrg.2 hrg.1
      rcases hi with rfl | rfl | rfl
      · rw [ka_nth_split S na _ hn (by simp)]
        intro q1 q2 H locs ls hr hz hl
        obtain ⟨hb9, hA9⟩ := aftn (S.drop (na + 1)) v h' haf
        have hlen9 : (S.take na).reverse.length = na := by rw [List.length_reverse, List.length_take, Nat.min_eq_left (by omega)]
        rcases k6 with ⟨⟨k8, k9⟩, k10⟩ | ⟨⟨⟨⟨⟨k8, k9⟩, k10⟩, k11⟩, k12⟩, k13⟩
        · have hrec := fun H hr => ka_rec (s := s) (h := h) (a := a) hZc hZo hW hk (by omega) H hr
          have := kr_callV (d := d) (m' := m') (x := x) (a := a) (C := ka_rc ci) (r := .inl v) (as := (S.take na).reverse) (rest := S.drop (na + 1)) (n0 := n0) (t0 := t0) hW hx hb hmlL hd hown hcw k2 (Or.inr ⟨⟨v, rfl⟩, "KeptAnswers", va_Nw.use rfl (va_Nw.warmM hW (va_Nw.of rfl (hZw _ (ka_hm_mem k9))))⟩) (ka_h_at hZw hW k5) (ka_h_at hZw hW k10) (fun sig hs => by rw [hlen9]; exact hlen sig hs) hR (hrec H hr).1 (fun H hr => (hrec H hr).2) (ka_cat_of hov hcat) hCt g1 g2 hb9.1 hb9.2 hA9 q1 q2 H locs ls hr hz hl
          rw [List.reverse_reverse] at this
          exact this
        · have hrec := fun H hr => ka_rec (s := s) (h := h) (a := a) hZc hZo hW hk (by omega) H hr
          have erc : ka_rc ci = "KeptAnswers$Op" := by rw [k8]; rfl
          rw [erc] at hrec
          have := kr_callU (d := d) (m' := m') (x := x) (a := a) (C := "KeptAnswers$Op") (owner := "java/lang/Enum") (z := ⟨"KeptAnswers$Op", "ordinal", "()I"⟩) (as := (S.take na).reverse) (rest := S.drop (na + 1)) (n0 := n0) (t0 := t0) hW hx hb hmlL hd hown hcw k2 k9 (ka_h_at hZw hW k10) (ka_h_at hZw hW k11) (ka_h_at hZw hW k12) (ka_h_at hZw hW k5) (ka_h_at hZw hW k13) (fun sig hs => by rw [hlen9]; rw [k9] at hlen; exact hlen sig hs) hR (hrec H hr).1 (fun H hr => (hrec H hr).2) (ka_cat_of hov hcat) hCt g1 g2 hb9.1 hb9.2 hA9 q1 q2 H locs ls hr hz hl
          rw [List.reverse_reverse] at this
          exact this
      · simp [ka_ckt] at hct
      · simp [ka_ckt] at hct
    · exact hst.elim
  · -- 23: static, doesn't throw
    rename_i m' na
    obtain ⟨hok, v, h', hcl, haf⟩ := ka_cond hst
    obtain ⟨hnl, hcat⟩ := ka_okn_cat _ _ hok
    simp only [ka_cki, Bool.and_eq_true, decide_eq_true_eq] at hck
    obtain ⟨⟨k1, k4⟩, k5⟩ := hck
    obtain ⟨hcw, hrg, hlen⟩ := ka_cwo_of (args := args) hZw hW hKw k1
    obtain ⟨hCt, g1, g2⟩ := hKc _ _ _ _ _ hcl hrg.2 hrg.1
    rcases hi with rfl | rfl | rfl
    · simp [ka_ckt] at hct
    · intro q1 q2 H locs ls hr hz hl
      obtain ⟨hb9, hA9⟩ := aftn (S.drop na) v h' haf
      have := kr_callS (d := d) (m' := m') (x := x) (r := .inl v) (as := (S.take na).reverse) (rest := S.drop na) (n0 := n0) (t0 := t0) hW hx hb hmlL hd hown hcw (ka_h_at hZw hW k4) (ka_h_at hZw hW k5) (fun sig hs => by rw [List.length_reverse, List.length_take, Nat.min_eq_left hnl]; exact hlen sig hs) hR (ka_cat_of hov hcat) hCt (Or.inr ⟨v, rfl⟩) g1 g2 hb9.1 hb9.2 hA9 q1 q2 H locs ls hr hz hl
      rw [List.reverse_reverse, List.take_append_drop] at this
      exact this
    · simp [ka_ckt] at hct
  · -- 9: Object.<init>
    split at hst
    · rename_i a S'
      obtain ⟨hok, ha0, hk⟩ := ka_cond hst
      simp only [ka_cki] at hck
      have hcat : ka_cat S' := ka_okc_cat 8 S' hok
      rcases hi with rfl | rfl | rfl
      · simp [ka_ckt] at hct
      · simp [ka_ckt] at hct
      · exact kr_obj hx hb hmlL hd hown (ka_h_at hZw hW hck) (ka_mv hW rfl (hZw _ ka_oin.1)) (ka_mv hW rfl (hZw _ ka_oin.2)) ha0 (ka_cat_of hov hcat) (by omega) (by omega) (hKk _ _ _ _ hk hL).2
    · exact hst.elim
  · -- 16: arraycopy
    split at hst
    · rename_i n dp d' sp sr S'
      obtain ⟨hok, ⟨⟨z1, z2⟩, z3, z4, z5, z6, z7⟩, hk⟩ := ka_cond hst
      simp only [ka_cki] at hck
      have hcat : ka_cat S' := ka_okc_cat 8 S' hok
      rcases hi with rfl | rfl | rfl
      · simp [ka_ckt] at hct
      · exact kr_copy hZa hW hx hb hmlL hd hown (ka_h_at hZw hW hck) (ka_mv hW rfl (hZw _ ka_cin.1)) (ka_mv hW rfl (hZw _ ka_cin.2.1)) (ka_mv hW rfl (hZw _ ka_cin.2.2)) z1 z2 (ka_cat_of hov hcat) z3 z4 z5 z6 z7 (by omega) (by omega) (hKk _ _ _ _ hk hL).2
      · simp [ka_ckt] at hct
    · exact hst.elim
  · -- 17: clone
    split at hst
    · rename_i a S'
      obtain ⟨hok, ⟨⟨z1, z2⟩, z3⟩, hk⟩ := ka_cond hst
      simp only [ka_cki] at hck
      have hcat : ka_cat S' := ka_okc_cat 8 S' hok
      rcases hi with rfl | rfl | rfl
      · intro q1 q2
        have hK9 := hKk _ _ _ _ hk hL
        have g1 : h.1 + 1 - n0 ≤ R.cells := hK9.1.1
        have g2 : h.2.1 + (ka_K h a).2 - t0 ≤ R.slots := hK9.1.2
        exact kr_clone hZa hW hx hb hmlL hd hown (ka_h_at hZw hW hck) (ka_mv hW rfl (hZw _ ka_nin.1)) (ka_mv hW rfl (hZw _ ka_nin.2.1)) (ka_mv hW rfl (hZw _ ka_nin.2.2.1)) (ka_mv hW rfl (hZw _ ka_nin.2.2.2.1)) (ka_mv hW rfl (hZw _ ka_nin.2.2.2.2)) z1 (ka_cat_of hov hcat) z3 (by omega) (by omega) (by omega) (by omega) hK9.2 q1 q2
      · simp [ka_ckt] at hct
      · simp [ka_ckt] at hct
    · exact hst.elim
  · exact hst.elim
end KS
