/-! ===== runs of the small machine are runs of the machine ===== -/
def ka_Rows : Prop := ∀ m, m < 283 → ∀ pc i len ts, ka_cd m pc = some (i, len, ts) → ka_ck m pc i len ts = true
def ka_Hs : Prop := ∀ m, m < 283 → ka_ckh2 m (ka_hh m) (ka_hs m) = true ∧ plainName (ka_y m).cls = true ∧ ka_on (ka_own m) = (ka_y m).cls
section KU
variable {p : Program} {l : Launch} {e : Env} {R : Room} {s : State} {m : MethodId} {args : Array Value} {below : List Frame} {meth : Method} {c : Code} {Q : State → Prop} {G : ka_G} {A0 : Array Value} {mt n0 t0 d : Nat} {call : Nat → List Value → ka_H → ka_R → ka_H → Prop}
theorem ka_wp_snd {r0 : ka_R} {hZ : ka_H} (hF : ka_F G A0 l p s m meth c mt n0) (hE : ka_ends G p l e R s m args below meth c Q n0 t0 mt (fun r1 h1 => r1 = r0 ∧ h1 = hZ)) (hKc : ka_Kc G l d call) (hmon : ∀ m as h r h', call m as h r h' → h.1 ≤ h'.1 ∧ h.2.1 ≤ h'.2.1) (hKw : ka_Kw) (hB : hZ.1 - n0 ≤ R.cells ∧ hZ.2.1 - t0 ≤ R.slots) (hR : d + 13 ≤ R.frames ∧ 60 * d + 460 ≤ R.locals) :
    ∀ (n pc : Nat) (L S : List Value) (h : ka_H), L.length = ka_mx mt → ka_wp (ka_lk (ka_own mt)) call (ka_hs mt) (ka_rt mt) (ka_cd mt) (fun _ => false) (fun _ _ _ _ => False) (fun r1 h1 => r1 = r0 ∧ h1 = hZ) n pc L S h → ka_W G p l e R s m args below meth c Q n0 t0 pc L S h
  | 0, _, _, _, _, _, hw => hw.elim
  | n + 1, pc, L, S, h, hL, hw => by
    unfold ka_wp at hw
    split at hw
    · exact hw.elim
    · rename_i i len ts hcd
      refine ka_step_snd hF hE (k := ka_wp (ka_lk (ka_own mt)) call (ka_hs mt) (ka_rt mt) (ka_cd mt) (fun _ => false) (fun _ _ _ _ => False) (fun r1 h1 => r1 = r0 ∧ h1 = hZ) n) (fun pc L S h hk hl => ?_) hKc hKw (fun r h1 z => by rw [z.2]; exact hB) hR hL hcd hw
      have := ka_wp_mono hmon n pc L S h hk
      exact ⟨⟨by omega, by omega⟩, ka_wp_snd hF hE hKc hmon hKw hB hR n pc L S h hl hk⟩
theorem ka_nth_app : ∀ (l r : List Value) (i : Nat), i < l.length → ka_nth (l ++ r) i = ka_nth l i
  | [], _, _, h => absurd h (Nat.not_lt_zero _)
  | _ :: _, _, 0, _ => rfl
  | _ :: l, r, i + 1, h => ka_nth_app l r i (Nat.lt_of_succ_lt_succ h)
theorem ka_nth_rep : ∀ (l : List Value) (n i : Nat), l.length ≤ i → ka_nth (l ++ List.replicate n (.retAddr 0)) i = .retAddr 0
  | [], 0, _, _ => rfl
  | [], n + 1, 0, _ => rfl
  | [], n + 1, i + 1, _ => ka_nth_rep [] n i (Nat.zero_le _)
  | _ :: l, n, 0, h => absurd h (Nat.not_succ_le_zero _)
  | _ :: l, n, i + 1, h => ka_nth_rep l n i (Nat.le_of_succ_le_succ h)
theorem ka_okc_1 (hov : G.2.2.2.2.1.category = 1) : ∀ (b : Nat) (as : List Value), ka_okc b as = true → ∀ v ∈ as, (ka_cv G v).category = 1
  | _, [], _, v, hv => nomatch hv
  | 0, _ :: _, h, _, _ => by cases h
  | b + 1, w :: l, h, v, hv => by
    have ih : ka_okc b l = true ∧ (ka_cv G w).category = 1 := by
      cases w with
      | int a => exact ⟨h, rfl⟩
      | ref a =>
        refine ⟨h, ?_⟩
        rw [ka_cv_r]
        by_cases e : a = 0
        · rw [if_pos e]; rfl
        · rw [if_neg e]; rfl
      | float a => exact ⟨h, hov⟩
      | _ => cases h
    rcases List.mem_cons.mp hv with rfl | hv
    · exact ih.2
    · exact ka_okc_1 hov b l ih.1 v hv
theorem ka_sl1 : ∀ (vs : List Value), (∀ v ∈ vs, v.category = 1) → (lg_sl vs).length = vs.length
  | [], _ => rfl
  | v :: vs, h => by
    have e : lg_sl (v :: vs) = .val v :: lg_sl vs := by
      unfold lg_sl
      rw [List.flatMap_cons, if_neg (by rw [h v List.mem_cons_self]; decide)]
      rfl
    rw [e, List.length_cons, List.length_cons, ka_sl1 vs (fun w hw => h w (List.mem_cons_of_mem _ hw))]
theorem ka_args_mem : ∀ (as : List Value) (k i : Nat), (∀ v ∈ as, (ka_cv G v).category = 1) → i < as.length → (k + i, ka_cv G (ka_nth as i)) ∈ lv_args k (as.map (ka_cv G))
  | [], _, _, _, h => absurd h (Nat.not_lt_zero _)
  | v :: as, k, 0, _, _ => List.mem_cons_self
  | v :: as, k, i + 1, h1, h => by
    have := ka_args_mem as (k + 1) i (fun w hw => h1 w (List.mem_cons_of_mem _ hw)) (Nat.lt_of_succ_lt_succ h)
    refine List.mem_cons_of_mem _ ?_
    rw [if_neg (by rw [h1 v List.mem_cons_self]; decide), show k + (i + 1) = k + 1 + i by omega]
    exact this
/-- the locals at entry -/
theorem ka_entry (hov : G.2.2.2.2.1.category = 1) {as : List Value} {n : Nat} (ha : ka_okc 30 as = true) (hn : as.length ≤ n) : ∃ ls, entryFrame m (as.map (ka_cv G)).toArray n = F0 m 0 ls [] ∧ ka_L G ls (as ++ List.replicate (n - as.length) (.retAddr 0)) ∧ (as ++ List.replicate (n - as.length) (Value.retAddr 0)).length = n := by
  have h1 := ka_okc_1 hov 30 as ha
  have h2 : ∀ v ∈ as.map (ka_cv G), v.category = 1 := by
    intro v hv
    obtain ⟨w, hw, rfl⟩ := List.mem_map.mp hv
    exact h1 w hw
  have h3 : (lg_sl (as.map (ka_cv G))).length = as.length := by rw [ka_sl1 _ h2, List.length_map]
  have hlen : (as ++ List.replicate (n - as.length) (Value.retAddr 0)).length = n := by rw [List.length_append, List.length_replicate]; omega
  have hl := lv_entry (as.map (ka_cv G)) (n := n) (by rw [h3]; exact hn)
  refine ⟨_, lg_entry_eq m _ n, ⟨by rw [hlen]; exact hl.1, hl.2.1, fun i hi => ?_⟩, hlen⟩
  by_cases hlt : i < as.length
  · have := hl.2.2 (i, ka_cv G (ka_nth as i)) (by have := ka_args_mem as 0 i h1 hlt; rw [Nat.zero_add] at this; exact this)
    rw [ka_nth_app _ _ _ hlt]
    exact this
  · rw [ka_nth_rep as _ i (by omega)] at hi
    cases hi
def ka_rQ (G : ka_G) (r : ka_R) (h' : ka_H) : Array Value → State → Outcome → State → Prop := match r with
  | .inl v => ka_Qc G v h'
  | .inr _ => fun _ _ _ _ => False
def ka_rX (G : ka_G) (r : ka_R) (h' : ka_H) : String → State → State → Prop := match r with
  | .inl _ => fun _ _ _ => False
  | .inr (e, _) => ka_XC G e h'
theorem ka_ret_ends {r0 : ka_R} {hZ : ka_H} (hF : ka_F G A0 l p s m meth c mt n0) (hret : meth.sig.returnType = ka_rty mt) : ka_ends G p l e R s m args below meth c (vx_MQ below (ka_rQ G r0 hZ) (ka_rX G r0 hZ) args s (hZ.1 - n0) (hZ.2.1 - t0) (ka_A G)) n0 t0 mt (fun r1 h1 => r1 = r0 ∧ h1 = hZ) := by
  obtain ⟨-, hx, hb, hml, hown, hW, htab, hlocks, hname, hsz, hold, hckh, hrow⟩ := hF
  refine ⟨?_, ?_⟩
  · rintro w h1 ⟨rfl, rfl⟩ H locs ls pc hr hz hcase
    refine vx_ret ?_
    rcases hcase with ⟨hd, hc, x, rfl, hok⟩ | ⟨hd, hc, a, rfl⟩ | ⟨hd, hc, rfl⟩
    · have hq : ∀ t : State, t.heap = H → s.WarmedH t.vm → ka_rQ G (.inl (some (.int x))) h1 args s (.returned (some (.int x))) t := fun t ht _ => ⟨rfl, by rw [ht]; exact hr⟩
      unfold ka_rI at hc
      split at hc
      · rename_i hty
        exact W.iret hx hb (hret.trans hty) hq hz hd hlocks
      · rename_i hty
        rw [of_decide_eq_true hc] at hok
        exact W.zret hx hb (hret.trans hty) (by rcases hok with rfl | rfl <;> rfl) hq hz hd hlocks
      · rename_i hty
        rw [of_decide_eq_true hc] at hok
        exact W.zret hx hb (hret.trans hty) hok hq hz hd hlocks
      · rename_i hty
        rw [of_decide_eq_true hc] at hok
        exact W.zret hx hb (hret.trans hty) hok hq hz hd hlocks
      · cases hc
    · have hq : ∀ t : State, t.heap = H → s.WarmedH t.vm → ka_rQ G (.inl (some (.ref a))) h1 args s (.returned (some (ka_cv G (.ref a)))) t := fun t ht _ => ⟨rfl, by rw [ht]; exact hr⟩
      have hv : ka_cv G (.ref a) = .null ∨ ∃ b, ka_cv G (.ref a) = .ref b := by
        rcases ka_cv_ref G a with ⟨-, e1⟩ | ⟨-, e1⟩
        · exact Or.inl e1
        · exact Or.inr ⟨_, e1⟩
      unfold ka_rA at hc
      split at hc
      · rename_i n hty
        exact W.aret hx hb (hret.trans hty) (Or.inl ⟨n, rfl⟩) hv hq hz hd hlocks
      · rename_i n hty
        exact W.aret hx hb (hret.trans hty) (Or.inr ⟨n, rfl⟩) hv hq hz hd hlocks
      · cases hc
    · unfold ka_rV at hc
      split at hc
      · rename_i hty
        exact W.vret hx hb (hret.trans hty) (fun t ht _ => ⟨rfl, by rw [ht]; exact hr⟩) hz hd hlocks
      · cases hc
  · rintro ex a h1 ⟨rfl, rfl⟩
    exact ⟨_, _, _, _, rfl, fun t ht => ⟨rfl, ht⟩, Nat.le_refl _, Nat.le_refl _⟩
end KU
theorem ka_run_snd {G : ka_G} {A0 : Array Value} {l : Launch} (hZ : ka_Z G A0 l) (hRows : ka_Rows) (hHs : ka_Hs) (hKw : ka_Kw) : ∀ (d m : Nat) (as : List Value) (h : ka_H) (r : ka_R) (h' : ka_H), ka_run d m as h r h' → m < 283 → ka_Ct G l d m as h r h'
  | 0, _, _, _, _, _, q, _ => q.elim
  | d + 1, mt, as, h, r, h', ⟨⟨ha, hn⟩, n, hw⟩, hm => by
    have hKc : ka_Kc G l d (ka_run d) := fun m' as h r h' hr hlt _ => ⟨ka_run_snd hZ hRows hHs hKw d m' as h r h' hr hlt, ka_run_mono d m' as h r h' hr⟩
    obtain ⟨hck, hpl, hon⟩ := hHs mt hm
    have hov : G.2.2.2.2.1.category = 1 := hZ.2.2.2.2.2.2.2.2.2.2.2
    have key : vx_Met l (ka_y mt) [ka_cw mt] (ka_rm (d + 1) (h'.1 - h.1) (h'.2.1 - h.2.1)) (ka_Pc G as h) (ka_rQ G r h') (ka_rX G r h') (h'.1 - h.1) (h'.2.1 - h.2.1) (ka_A G) := by
      have body : ∀ (p : Program) (e : Env) (s : State) (m : MethodId) (args : Array Value) (below : List Frame) (meth : Method) (c : Code) (s₁ : State), BodyLoose p l (ka_y mt) (headSpec [ka_cw mt] (ka_rm (d + 1) (h'.1 - h.1) (h'.2.1 - h.2.1))) (ka_by mt) (ka_mx mt) (ka_rty mt) e s m args below meth c s₁ → c.maxLocals = ka_mx mt → c.exceptionTable.toList = tableOf (ka_hh mt) → ka_Pc G as h args s →
          W p l e (headSpec [ka_cw mt] (ka_rm (d + 1) (h'.1 - h.1) (h'.2.1 - h.2.1))).room s m args below meth c s.heap [] 0 0 (vx_MQ below (ka_rQ G r h') (ka_rX G r h') args s (h'.1 - h.1) (h'.2.1 - h.2.1) (ka_A G)) (entryFrame m args (ka_mx mt)) := by
        intro p e s m args below meth c s₁ B hml htab hP
        obtain ⟨rfl, hrel, hW⟩ := hP
        have hF : ka_F G A0 l p s m meth c mt h.1 := ⟨hZ, B.exec, B.bytes, hml, by rw [hon]; exact findClass_of_methodNamed B.named, hW, htab, B.notSynchronized, (name_of_methodNamed B.named B.method).1, hrel.1, hrel.2.2.2.1, hck, hRows mt hm⟩
        obtain ⟨ls, e1, hl, hlen⟩ := ka_entry (m := m) hov ha hn
        rw [e1]
        have := ka_wp_snd (R := (headSpec [ka_cw mt] (ka_rm (d + 1) (h'.1 - h.1) (h'.2.1 - h.2.1))).room) (e := e) (args := (as.map (ka_cv G)).toArray) (below := below) (t0 := h.2.1) hF (ka_ret_ends hF B.returns) hKc (ka_run_mono d) hKw ⟨Nat.le_refl _, Nat.le_refl _⟩ ⟨Nat.le_refl _, Nat.le_refl _⟩ n 0 _ [] h hlen hw (Nat.le_refl _) (Nat.le_refl _) s.heap [] ls hrel (fun z hz => nomatch hz) hl
        rw [Nat.sub_self, Nat.sub_self] at this
        exact this
      by_cases hh : ka_hh mt = []
      · refine vx_ofW (cc := ka_by mt) (maxL := ka_mx mt) (ret := ka_rty mt) (ws' := []) hpl (by rw [ka_cw_nil hh]) ?_
        intro p e s m args below meth c s₁ B hml ht hP
        refine body p e s m args below meth c s₁ B hml ?_ hP
        rw [hh]
        cases hq : c.exceptionTable.toList with
        | nil => rfl
        | cons x xs => exact (ht x (by rw [hq]; exact List.mem_cons_self)).elim
      · refine vx_ofWH (cc := ka_by mt) (maxL := ka_mx mt) (ret := ka_rty mt) (ws' := []) (hh := ka_hh mt) hpl (by rw [ka_cw_cons hh]) ?_
        intro p e s m args below meth c s₁ B hml hP
        refine body p e s m args below meth c s₁ B hml ?_ hP
        have h9 := atoms_spec (ws := [ka_cw mt]) B.pre _ List.mem_cons_self
        rw [ka_cw_cons hh] at h9
        exact vx_table (x := ka_y mt) B h9
    cases r with
    | inl v => exact ka_met_of_vx key
    | inr y => exact key
