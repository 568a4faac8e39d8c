/-! ===== the reference: what a condition's code says; the switch of workNode ===== -/
theorem kq_sw_at {k : Nat → Prop} {dd : Nat} {op : Nat} (hop : op < 2 ^ 30) : ∀ (ts : List Nat) (lo : Nat), lo ≤ op → lo + ts.length < 2 ^ 30 → k (ts.getD (op - lo) dd) → ka_sw (nI op) k dd (nI lo) ts
  | [], lo, _, _, hk => by
    show k dd
    simpa using hk
  | t :: ts, lo, hlo, hl, hk => by
    refine ⟨fun e => ?_, fun e => ?_⟩
    · have e' := (nI_eq (by omega) (by simp at hl; omega)).mp e
      rw [e', Nat.sub_self] at hk
      exact hk
    · have e' : op ≠ lo := fun z => e (by rw [z])
      rw [← nI_succ]
      refine kq_sw_at hop ts (lo + 1) (by omega) (by simp at hl ⊢; omega) ?_
      rw [show op - lo = (op - (lo + 1)) + 1 by omega, List.getD_cons_succ] at hk
      exact hk
theorem kq_tsw {g : Nat × (Nat → Int32)} {d m pc op lo len dd : Nat} {df lo' hi : Int} {tg : Array Int} {tl : List Nat} {R : ka_R → ka_H → Prop} {L S : List Value} {h : ka_H} (hcd : ka_cd m pc = some (.tableswitch df lo' hi tg, len, dd :: tl)) (hlo : Int32.ofInt lo' = nI lo) (hle : lo ≤ op) (hop : op < 2 ^ 30) (hl : lo + tl.length < 2 ^ 30) (hk : kq_ex g d m R (tl.getD (op - lo) dd) L S h) : kq_ex g d m R pc L (.int (nI op) :: S) h := by
  refine kq_seg (fun _ => true) 1 ?_
  unfold kq_wp
  rw [hcd]
  show ka_sw (nI op) _ dd (Int32.ofInt lo') tl
  rw [hlo]
  exact kq_sw_at (k := fun t => kq_ex g d m R t L S h) hop tl lo hle hl hk
section M7
variable {g : Nat × (Nat → Int32)} {d : Nat} {h : ka_H} {R : ka_R → ka_H → Prop}
theorem kc_holds (hf : kf g h) {i n : Nat} {a b : Nat} {l : List Int32} (hi : i < 72) (hn : ka_I h 88 i = nI n) (hl : l.length = n) (h200 : n ≤ 200) (hc : ∀ k, k < n → ka_I h 87 (200 * i + k) = l.getD k 0)
    {pf : Nat × (Nat → Int32)} (hx : kv_xl a b l (0, ka_I h 97) = some pf) (e : R (kp_ri (kp_b (pf.2 0 = 1))) (ka_sF h 97 pf.2)) : kp_T (d + 1) 206 [.ref 72, .int (nI i), .int (nI a), .int (nI b)] h R := by
  have loop : ∀ (l' : List Int32) (k sp : Nat) (st : Nat → Int32) (z6 z7 z8 z9 : Value), k + l'.length = n → (∀ j, j < l'.length → ka_I h 87 (200 * i + k + j) = l'.getD j 0) → kv_xl a b l' (sp, st) = some pf →
      kq_ex g d 206 R 10 [.ref 72, .int (nI i), .int (nI a), .int (nI b), .int (nI sp), .int (nI (200 * i + k)), z6, z7, z8, z9] [] (ka_sF h 97 st) := by
    intro l'
    induction l' with
    | nil =>
      intro k sp st z6 z7 z8 z9 hk _ hp
      cases hp
      refine kq_seg kp_no 40 ⟨nI_in (N := 72) hi (by omega), ?_⟩
      rw [nI_clamp (by omega), show ka_I (ka_sF h 97 st) (kq_p (ka_sF h 97 st) 72 20) i = nI n from (congrFun (ka_I_Fn h st (by decide : (88 : Nat) ≠ 97)) i).trans hn]
      rw [nI_200m]
      refine ⟨fun _ => ⟨nI_in (c := 0) (N := 100) (by omega) (by omega), ?_⟩, fun c => absurd (show nI (200 * i + k) < nI (200 * i + n) by rw [← nI_add (200 * i) n]; exact c) (nI_nlt (by simp at hk; omega) (by omega))⟩
      rw [show ka_I (ka_sF h 97 st) (kq_p (ka_sF h 97 st) 72 42) (Int32.ofInt 0).toNatClampNeg = st 0 from congrFun (ka_I_F h 97 st) 0]
      refine ⟨fun c => ?_, fun c => ?_⟩
      · replace e : R (kp_ri (kp_b (st 0 = 1))) (ka_sF h 97 st) := e
        rw [kp_bF (p := st 0 = 1) c] at e
        exact ⟨Or.inl rfl, e⟩
      · replace e : R (kp_ri (kp_b (st 0 = 1))) (ka_sF h 97 st) := e
        rw [kp_bT (show st 0 = 1 from c)] at e
        exact ⟨Or.inr rfl, e⟩
    | cons v l' ih =>
      intro k sp st z6 z7 z8 z9 hk hcd hp
      have hlen : k + 1 + l'.length = n := by simp at hk; omega
      have hv : ka_I h 87 (200 * i + k) = v := by
        have := hcd 0 (by simp)
        simpa using this
      have hcd' : ∀ j, j < l'.length → ka_I h 87 (200 * i + (k + 1) + j) = l'.getD j 0 := fun j hj => by
        have := hcd (j + 1) (by simp; omega)
        rw [show 200 * i + (k + 1) + j = 200 * i + k + (j + 1) by omega, this, List.getD_cons_succ]
      unfold kv_xl at hp
      have hxI : ∀ sp' st', kv_x1 a b v (sp, st) = some (sp', st') → ∀ z6 z7 z8 z9, kq_ex g d 206 R 257 [.ref 72, .int (nI i), .int (nI a), .int (nI b), .int (nI sp'), .int (nI (200 * i + k)), z6, z7, z8, z9] [] (ka_sF h 97 st') := by
        intro sp' st' hs z6 z7 z8 z9
        rw [hs] at hp
        have := ih (k + 1) sp' st' z6 z7 z8 z9 hlen hcd' hp
        rw [← Nat.add_assoc, nI_succ] at this
        exact kq_seg (fun p => Nat.beq p 10) 4 this
      have hsome : kv_x1 a b v (sp, st) ≠ none := fun z => by rw [z] at hp; cases hp
      have hrd : ∀ j, ka_I (ka_sF h 97 st) 97 j = st j := fun j => congrFun (ka_I_F h 97 st) j
      refine kq_seg (fun p => Nat.beq p 257 || Nat.beq p 236) 80 ⟨nI_in (N := 72) hi (by omega), ?_⟩
      rw [nI_clamp (by omega), show ka_I (ka_sF h 97 st) (kq_p (ka_sF h 97 st) 72 20) i = nI n from (congrFun (ka_I_Fn h st (by decide : (88 : Nat) ≠ 97)) i).trans hn]
      rw [nI_200m]
      refine ⟨fun c => absurd (show nI (200 * i + k) < nI (200 * i) + nI n by rw [nI_add (200 * i) n]; exact nI_lt (by omega) (by omega)) c, fun _ => ⟨nI_in (N := 14400) (by omega) (by omega), ?_⟩⟩
      rw [nI_clamp (by omega), show ka_I (ka_sF h 97 st) (kq_p (ka_sF h 97 st) 72 19) (200 * i + k) = v from (congrFun (ka_I_Fn h st (by decide : (87 : Nat) ≠ 97)) _).trans hv]
      unfold kv_x1 at hxI hsome
      refine ⟨fun c => ?_, fun c => ?_⟩
      · have c1 : ¬ v < 100 := c
        rw [if_neg c1] at hxI hsome
        refine ⟨fun c2 => ?_, fun c2 => ?_⟩
        · have c3 : ¬ v = 105 := c2
          rw [if_neg c3] at hxI hsome
          have hsp : 2 ≤ sp ∧ sp ≤ 100 := Classical.byContradiction fun z => hsome (if_neg z)
          rw [if_pos hsp] at hxI
          refine ⟨by rw [nI_dec (n := sp) (by omega), nI_m1 (by omega)]; exact nI_in (N := 100) (by omega) (by omega), ?_⟩
          rw [nI_dec (n := sp) (by omega), nI_m1 (by omega), nI_clamp (by omega), show ka_I (ka_sF h 97 st) (kq_p (ka_sF h 97 st) 72 42) (sp - 1 - 1) = st (sp - 2) from hrd _]
          refine ⟨nI_in (N := 100) (by omega) (by omega), ?_⟩
          rw [nI_clamp (by omega), show ka_I (ka_sF h 97 st) (kq_p (ka_sF h 97 st) 72 42) (sp - 1) = st (sp - 1) from hrd _]
          have hfin : ∀ w, w = kv_c2 v (st (sp - 2)) (st (sp - 1)) → (w = 0 ∨ w = 1) → kq_ex g d 206 R 236 [.ref 72, .int (nI i), .int (nI a), .int (nI b), .int (nI (sp - 1)), .int (nI (200 * i + k)), .int v, .int (st (sp - 2)), .int (st (sp - 1)), z9] [.int w] (ka_sF h 97 st) := by
            intro w hw h01
            have key := hxI _ _ rfl
            rw [← ka_sI_F] at key
            refine kq_seg (fun p => Nat.beq p 257) 20 ⟨fun c => ⟨by rw [nI_m1 (by omega)]; exact nI_in (N := 100) (by omega) (by omega), ?_⟩, fun c => ⟨by rw [nI_m1 (by omega)]; exact nI_in (N := 100) (by omega) (by omega), ?_⟩⟩
            · rw [nI_m1 (by omega), nI_clamp (by omega)]
              rw [← hw, show w = 0 from c] at key
              exact key _ _ _ _
            · rw [nI_m1 (by omega), nI_clamp (by omega)]
              rw [← hw, h01.resolve_left c] at key
              exact key _ _ _ _
          refine ⟨fun (d1 : ¬ v = 100) => ?_, fun (d1 : v = 100) => ?_⟩
          · refine ⟨fun (d2 : ¬ v = 101) => ?_, fun (d2 : v = 101) => ?_⟩
            · refine ⟨fun (d3 : ¬ v = 102) => ?_, fun (d3 : v = 102) => ?_⟩
              · refine ⟨fun (d4 : ¬ v = 103) => ?_, fun (d4 : v = 103) => ?_⟩
                · refine ⟨fun (d5 : ¬ st (sp - 2) * st (sp - 1) = 1) => hfin _ (by unfold kv_c2; rw [if_neg d1, if_neg d2, if_neg d3, if_neg d4, kp_bF d5]; rfl) (Or.inl rfl), fun (d5 : st (sp - 2) * st (sp - 1) = 1) => hfin _ (by unfold kv_c2; rw [if_neg d1, if_neg d2, if_neg d3, if_neg d4, kp_bT d5]; rfl) (Or.inr rfl)⟩
                · refine ⟨fun d5 => hfin _ (by unfold kv_c2; rw [if_neg d1, if_neg d2, if_neg d3, if_pos d4, kp_bF d5]; rfl) (Or.inl rfl), fun d5 => hfin _ (by unfold kv_c2; rw [if_neg d1, if_neg d2, if_neg d3, if_pos d4, kp_bT d5]; rfl) (Or.inr rfl)⟩
              · refine ⟨fun d4 => hfin _ (by unfold kv_c2; rw [if_neg d1, if_neg d2, if_pos d3, kp_bF d4]; rfl) (Or.inl rfl), fun d4 => hfin _ (by unfold kv_c2; rw [if_neg d1, if_neg d2, if_pos d3, kp_bT d4]; rfl) (Or.inr rfl)⟩
            · refine ⟨fun d3 => hfin _ (by unfold kv_c2; rw [if_neg d1, if_pos d2, kp_bF d3]; rfl) (Or.inl rfl), fun d3 => hfin _ (by unfold kv_c2; rw [if_neg d1, if_pos d2, kp_bT d3]; rfl) (Or.inr rfl)⟩
          · refine ⟨fun d2 => hfin _ (by unfold kv_c2; rw [if_pos d1, kp_bF d2]; rfl) (Or.inl rfl), fun d2 => hfin _ (by unfold kv_c2; rw [if_pos d1, kp_bT d2]; rfl) (Or.inr rfl)⟩
        · have c3 : v = 105 := c2
          rw [if_pos c3] at hxI hsome
          have hsp : 1 ≤ sp ∧ sp ≤ 100 := Classical.byContradiction fun z => hsome (if_neg z)
          rw [if_pos hsp] at hxI
          have key := hxI _ _ rfl
          rw [← ka_sI_F] at key
          refine ⟨by rw [nI_m1 (by omega)]; exact nI_in (N := 100) (by omega) (by omega), ?_⟩
          rw [nI_m1 (by omega), nI_clamp (by omega), show ka_I (ka_sF h 97 st) (kq_p (ka_sF h 97 st) 72 42) (sp - 1) = st (sp - 1) from hrd _]
          refine ⟨nI_in (N := 100) (by omega) (by omega), ?_⟩
          rw [nI_clamp (by omega)]
          exact key _ _ _ _
      · have c1 : v < 100 := c
        rw [if_pos c1] at hxI hsome
        have hsp : sp < 100 := Classical.byContradiction fun z => hsome (if_neg z)
        rw [if_pos hsp] at hxI
        have key := hxI _ _ rfl
        rw [nI_succ, ← ka_sI_F] at key
        refine ⟨fun c2 => ?_, fun c2 => ⟨nI_in (N := 100) (by omega) (by omega), ?_⟩⟩
        · have c3 : ¬ v = 20 := c2
          rw [if_neg c3] at key
          refine ⟨fun c4 => ⟨nI_in (N := 100) (by omega) (by omega), ?_⟩, fun c4 => ⟨nI_in (N := 100) (by omega) (by omega), ?_⟩⟩
          · rw [nI_clamp (by omega)]
            rw [if_neg (show ¬ v = 21 from c4)] at key
            exact key _ _ _ _
          · rw [nI_clamp (by omega)]
            rw [if_pos (show v = 21 from c4)] at key
            exact key _ _ _ _
        · rw [nI_clamp (by omega)]
          rw [if_pos (show v = 20 from c2)] at key
          exact key _ _ _ _
  refine kq_in hf rfl rfl rfl (kq_seg (fun p => Nat.beq p 10) 8 ?_)
  have := loop l 0 0 (ka_I h 97) (.retAddr 0) (.retAddr 0) (.retAddr 0) (.retAddr 0) (by omega) (fun j hj => by rw [Nat.add_zero]; exact hc j (by omega)) hx
  rw [ka_sF_eta, Nat.add_zero, ← nI_200m] at this
  exact this
end M7
