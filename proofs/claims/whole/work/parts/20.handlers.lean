/-! ===== handlers; what is given of the start; the ends of a walk ===== -/
def ka_ckh2 (m : Nat) : List (Nat × Nat × Nat × Nat) → List (Nat × Nat × Nat × Nat × Nat × Nat) → Bool
  | [], [] => true
  | (b, e, t, ct) :: r, (b', e', t', x, lc, u) :: r' => decide (b = b' ∧ e = e' ∧ t = t' ∧ x < 4 ∧ ct ≠ 0 ∧ lc < ka_mx m) && ka_h (ka_wi (ka_own m) ct) (.classLink (ka_on (ka_own m)) ct (ka_en x)) && ((decide (u = t + 2) && decide (decode (ka_by m) t = .ok (.astore lc, 2))) || (decide (u = t + 1) && decide (lc < 4) && decide (decode (ka_by m) t = .ok (.astore_n (Fin.ofNat 4 lc), 1)))) && ka_ckh2 m r r'
  | _, _ => false
/-- a row that doesn't take what is thrown at pc -/
def ka_pass (m pc q : Nat) (z : Nat × Nat × Nat × Nat) : Prop := ¬ (z.1 ≤ pc ∧ pc < z.2.1) ∨ ∃ f, f ≠ q ∧ f < 4 ∧ z.2.2.2 ≠ 0 ∧ ka_h (ka_wi (ka_own m) z.2.2.2) (.classLink (ka_on (ka_own m)) z.2.2.2 (ka_en f)) = true
theorem ka_fh_some {m pc q lc u : Nat} : ∀ (hh : List (Nat × Nat × Nat × Nat)) (hs : List (Nat × Nat × Nat × Nat × Nat × Nat)), ka_ckh2 m hh hs = true → ka_fh hs pc q = some (lc, u) →
    ∃ pre b e t ct suf, hh = pre ++ (b, e, t, ct) :: suf ∧ (∀ z ∈ pre, ka_pass m pc q z) ∧ (b ≤ pc ∧ pc < e) ∧ ct ≠ 0 ∧ q < 4 ∧ lc < ka_mx m ∧ ka_h (ka_wi (ka_own m) ct) (.classLink (ka_on (ka_own m)) ct (ka_en q)) = true ∧ ((u = t + 2 ∧ decode (ka_by m) t = .ok (.astore lc, 2)) ∨ (u = t + 1 ∧ lc < 4 ∧ decode (ka_by m) t = .ok (.astore_n (Fin.ofNat 4 lc), 1)))
  | [], [], _, h => by cases h
  | [], _ :: _, h, _ => by cases h
  | _ :: _, [], h, _ => by cases h
  | (b, e, t, ct) :: r, (b', e', t', x, lc', u') :: r', h, hf => by
    simp only [ka_ckh2, Bool.and_eq_true, Bool.or_eq_true, decide_eq_true_eq] at h
    obtain ⟨⟨⟨⟨rfl, rfl, rfl, h4, h5, h6⟩, h7⟩, h8⟩, h9⟩ := h
    unfold ka_fh at hf
    by_cases hc : b ≤ pc ∧ pc < e ∧ x = q
    · rw [if_pos hc] at hf
      cases hf
      obtain ⟨c1, c2, rfl⟩ := hc
      refine ⟨[], b, e, t, ct, r, rfl, fun z hz => (nomatch hz), ⟨c1, c2⟩, h5, h4, h6, h7, ?_⟩
      rcases h8 with ⟨z1, z2⟩ | ⟨⟨z1, z2⟩, z3⟩
      · exact Or.inl ⟨z1, z2⟩
      · exact Or.inr ⟨z1, z2, z3⟩
    · rw [if_neg hc] at hf
      obtain ⟨pre, b2, e2, t2, ct2, suf, e1, e3, e4⟩ := ka_fh_some r r' h9 hf
      refine ⟨(b, e, t, ct) :: pre, b2, e2, t2, ct2, suf, by rw [e1]; rfl, fun z hz => ?_, e4⟩
      rcases List.mem_cons.mp hz with rfl | hz
      · by_cases hcov : b ≤ pc ∧ pc < e
        · exact Or.inr ⟨x, fun hxq => hc ⟨hcov.1, hcov.2, hxq⟩, h4, h5, h7⟩
        · exact Or.inl hcov
      · exact e3 z hz
theorem ka_fh_none {m pc q : Nat} : ∀ (hh : List (Nat × Nat × Nat × Nat)) (hs : List (Nat × Nat × Nat × Nat × Nat × Nat)), ka_ckh2 m hh hs = true → ka_fh hs pc q = none → ∀ z ∈ hh, ka_pass m pc q z
  | [], _, _, _ => fun z hz => nomatch hz
  | _ :: _, [], h, _ => by cases h
  | (b, e, t, ct) :: r, (b', e', t', x, lc', u') :: r', h, hf => by
    simp only [ka_ckh2, Bool.and_eq_true, Bool.or_eq_true, decide_eq_true_eq] at h
    obtain ⟨⟨⟨⟨rfl, rfl, rfl, h4, h5, h6⟩, h7⟩, h8⟩, h9⟩ := h
    unfold ka_fh at hf
    by_cases hc : b ≤ pc ∧ pc < e ∧ x = q
    · rw [if_pos hc] at hf
      cases hf
    · rw [if_neg hc] at hf
      intro z hz
      rcases List.mem_cons.mp hz with rfl | hz
      · by_cases hcov : b ≤ pc ∧ pc < e
        · exact Or.inr ⟨x, fun hxq => hc ⟨hcov.1, hcov.2, hxq⟩, h4, h5, h7⟩
        · exact Or.inl hcov
      · exact ka_fh_none r r' h9 hf z hz
def ka_names : List String := ["java/lang/RuntimeException", "java/lang/Exception"]
theorem ka_exok : ∀ q ∈ ka_exl, q.1 ≠ 2 → ∀ w ∈ vx_atS "KeptAnswers" q.2 (ka_en q.1) ka_names, w ∈ lw_tbl ∧ (w.onTables && w.keepsFace) = true := by decide +kernel
theorem ka_exok2 : ∀ w ∈ kx_atN "KeptAnswers" 312, w ∈ lw_tbl ∧ (w.onTables && w.keepsFace) = true := by decide +kernel
theorem ka_exin : ∀ e, e < 4 → Cond.initialized (ka_en e) ∈ lw_tbl ∧ Cond.castable (ka_en e) (ka_en e) ∈ lw_tbl := by decide +kernel
/-- what is given of the start -/
def ka_Z (G : ka_G) (A0 : Array Value) (l : Launch) : Prop := ka_Zw G A0 ∧ ka_Zc G ∧ ka_Za G ∧ ka_Zs G ∧ ka_Zo G ∧ (∀ q ∈ ka_gtl, va_Z q.1 q.2.1 q.2.2.1 (ka_cv G q.2.2.2) (ka_A G) G.1 G.1.heap) ∧ (∀ q ∈ ka_strs, vk_R (ka_on q.1) q.2.1 q.2.2.2 (ka_ad G q.2.2.1) G.1) ∧ (∀ q ∈ ka_txts, ∃ sa, vk_R "KeptAnswers" q.1 q.2 sa G.1) ∧
  (vx_Zq Bundle.tN "UNASSIGNED_STACK" Bundle.steD (ka_A G) G.1 G.1.heap ∧ vx_Zq Bundle.tN "SUPPRESSED_SENTINEL" Bundle.listD (ka_A G) G.1 G.1.heap) ∧ l.stackTraces = false ∧ (∀ e f, e < 4 → f < 4 → e ≠ f → va_Nc (ka_en e) (ka_en f) G.1) ∧ (G.2.2.2.2.1.category = 1)
/-- the frame of a walk -/
def ka_F (G : ka_G) (A0 : Array Value) (l : Launch) (p : Program) (s : State) (m : MethodId) (meth : Method) (c : Code) (mt n0 : Nat) : Prop := ka_Z G A0 l ∧ p.tables.exec = Jvm.exec ∧ c.code = ka_by mt ∧ c.maxLocals = ka_mx mt ∧ s.vm.findClass (ka_on (ka_own mt)) = some m.cls ∧ G.1.WarmedH s.vm ∧ c.exceptionTable.toList = tableOf (ka_hh mt) ∧ meth.locks = false ∧ meth.name = (ka_y mt).name ∧
  s.heap.size + 1 = ka_b G + n0 ∧ (∀ q : Nat, q < ka_b G → s.heap[q]? = G.1.heap[q]?) ∧ ka_ckh2 mt (ka_hh mt) (ka_hs mt) = true ∧ (∀ pc i len ts, ka_cd mt pc = some (i, len, ts) → ka_ck mt pc i len ts = true)
/-- the two ends of a walk -/
def ka_ends (G : ka_G) (p : Program) (l : Launch) (e : Env) (R : Room) (s : State) (m : MethodId) (args : Array Value) (below : List Frame) (meth : Method) (c : Code) (Q : State → Prop) (n0 t0 mt : Nat) (Rr : ka_R → ka_H → Prop) : Prop :=
  (∀ (w : Option Value) (h1 : ka_H), Rr (.inl w) h1 → ∀ (H : Heap) (locs : List Loc) (ls : Array Slot) (pc : Nat), ka_rel G h1 H → (∀ z ∈ locs, ka_b G ≤ z.base) → ((decode (ka_by mt) pc = .ok (.ireturn, 1) ∧ ka_rI mt = true ∧ ∃ x, w = some (.int x) ∧ ka_okr (ka_rt mt) x) ∨ (decode (ka_by mt) pc = .ok (.areturn, 1) ∧ ka_rA mt = true ∧ ∃ a, w = some (.ref a)) ∨ (decode (ka_by mt) pc = .ok (.return_, 1) ∧ ka_rV mt = true ∧ w = none)) →
    W p l e R s m args below meth c H locs (h1.1 - n0) (h1.2.1 - t0) Q (F0 m pc ls (w.toList.map (ka_cv G)))) ∧
  (∀ (ex a : Nat) (h1 : ka_H), Rr (.inr (ex, a)) h1 → ∃ (Qc : Array Value → State → Outcome → State → Prop) (XC : String → State → State → Prop) (mc ms : Nat), Q = vx_MQ below Qc XC args s mc ms (ka_A G) ∧ (∀ t : State, ka_rel G h1 t.heap → XC (ka_en ex) s t) ∧ h1.1 - n0 ≤ mc ∧ h1.2.1 - t0 ≤ ms)
theorem ka_L_unset {G : ka_G} {ls : Array Slot} {L : List Value} {x q : Nat} (hx : x < L.length) (h : lv_has ls L.length ((x, Value.ref q) :: (ka_vl G L).filter (fun q => !(q.1 == x) && !(q.1 + 1 == x && q.2.category == 2)))) : ka_L G ls (ka_set L x (.retAddr 0)) := by
  refine ⟨by rw [ka_len_set]; exact h.1, h.2.1, fun i hi => ?_⟩
  by_cases e : i = x
  · subst e
    rw [ka_nth_set_same L i _ hx] at hi
    cases hi
  · rw [ka_nth_set_ne L x i _ e] at hi ⊢
    refine h.2.2 (i, ka_cv G (ka_nth L i)) (List.mem_cons_of_mem _ (List.mem_filter.mpr ⟨ka_vl_mem hi, ?_⟩))
    have h1 : (i == x) = false := by simpa using e
    have h2 : ((ka_cv G (ka_nth L i)).category == 2) = false := by rw [ka_cv_cat hi]; rfl
    simp [h1, h2]
section KH
variable {p : Program} {l : Launch} {e : Env} {R : Room} {s : State} {m : MethodId} {args : Array Value} {below : List Frame} {meth : Method} {c : Code} {Q : State → Prop} {G : ka_G} {A0 : Array Value} {mt n0 t0 pc : Nat} {L rest : List Value} {h' : ka_H} {Rr : ka_R → ka_H → Prop}
theorem ka_cov {b e' t ct pc : Nat} : covers (⟨b, e', t, ct⟩ : ExceptionTableEntry) pc = decide (b ≤ pc ∧ pc < e') := by
  simp [covers]
/-- behind a throwing call: caught here, or on to the caller -/
theorem ka_exc (hF : ka_F G A0 l p s m meth c mt n0) (hE : ka_ends G p l e R s m args below meth c Q n0 t0 mt Rr) (hL : L.length = ka_mx mt) {ex a : Nat} (e5 : ex < 4) (g1 : n0 ≤ h'.1) (g2 : t0 ≤ h'.2.1)
    (hk : match ka_fh (ka_hs mt) pc ex with
      | some (lc, t) => ka_W G p l e R s m args below meth c Q n0 t0 t (ka_set L lc (.retAddr 0)) [] h'
      | none => Rr (.inr (ex, a)) h') : ka_aftW G p l e R s m args below meth c Q n0 t0 pc L rest (.inr (ex, a)) h' := by
  intro q ce H' locs' ls hr hz hl hce hcv hcl
  obtain ⟨⟨hZw, hZc, hZa, hZs, hZo, hZg, hZt, hZx, hZq, hlt, hZn, -⟩, hx, hb, hml, hown, hW, htab, hlocks, hname, hsz, hold, hckh, hrow⟩ := hF
  have hNc : ∀ f, ex < 4 → f < 4 → f ≠ ex → va_Nc (ka_en ex) (ka_en f) s := fun f h1 h2 h3 => va_Nc.moved hW.alike (hZn ex f h1 h2 (fun q => h3 q.symm))
  cases hfh : ka_fh (ka_hs mt) pc ex with
  | some y =>
    obtain ⟨lc, t⟩ := y
    rw [hfh] at hk
    obtain ⟨pre, b, e', hp, ct, suf, e1, e2, e3, e4, -, e6, e7, e8⟩ := ka_fh_some _ _ hckh hfh
    refine vx_catch hown (tableOf pre) ⟨b, e', hp, ct⟩ (tableOf suf) (by rw [htab, e1]; unfold tableOf; rw [List.map_append, List.map_cons]) (fun z hz' => ?_) (by rw [ka_cov]; exact decide_eq_true e3) e4 (ka_h_at hZw hW e7) (ka_mv hW (by rcases (show ex = 0 ∨ ex = 1 ∨ ex = 2 ∨ ex = 3 by omega) with rfl | rfl | rfl | rfl <;> rfl) (hZw _ (ka_exin ex e5).2)) hce hcv hcl ?_
    · obtain ⟨y, hy, rfl⟩ := List.mem_map.mp hz'
      rcases e2 y hy with h1 | ⟨f, h1, h2, h3, h4⟩
      · exact Or.inl (by rw [ka_cov]; exact decide_eq_false h1)
      · exact Or.inr ⟨h3, _, ka_h_at hZw hW h4, hNc f e5 h2 h1⟩
    · have hlen : lc < L.length := by rw [hL]; exact e6
      rcases e8 with ⟨rfl, hd⟩ | ⟨rfl, h4, hd⟩
      · exact lv_astore hx hb hd (ka_L_has hl) hlen rfl fun ls' hl' => hk g1 g2 H' locs' ls' hr hz (ka_L_unset hlen hl')
      · exact lv_astore_n (i := lc) hx hb hd (by simp [Fin.ofNat, Nat.mod_eq_of_lt h4]) (ka_L_has hl) hlen rfl fun ls' hl' => hk g1 g2 H' locs' ls' hr hz (ka_L_unset hlen hl')
  | none =>
    rw [hfh] at hk
    obtain ⟨Qc, XC, mc, ms, rfl, hXC, hc1, hc2⟩ := hE.2 ex a h' hk
    have hpass := ka_fh_none _ _ hckh hfh
    · refine vx_outP hown hlocks (fun z hz' => ?_) hce hcv hcl (fun t ht _ => hXC t (by rw [ht]; exact hr)) hz hc1 hc2
      rw [htab] at hz'
      obtain ⟨y, hy, rfl⟩ := List.mem_map.mp hz'
      rcases hpass y hy with h1 | ⟨f, h1, h2, h3, h4⟩
      · exact Or.inl (by rw [ka_cov]; exact decide_eq_false h1)
      · exact Or.inr ⟨h3, _, ka_h_at hZw hW h4, hNc f e5 h2 h1⟩
end KH
