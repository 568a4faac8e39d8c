/-! ===== operators: the reference's expressions ===== -/
def kx_hf : Nat → Nat → Bool := fun _ _ => false
def kx_un (tp : Nat → Int32) (n i en p2 : Nat) (nds1 : List kN) : kX := if kt_s tp n p2 < n ∧ tp (kt_s tp n p2) = 41 then .inr (kt_s tp n p2 + 1, nds1 ++ [(i, 0, en + nds1.length - 1, 0, en, [], [], kx_hf)]) else .inl (1, kt_s tp n p2)
def kx_bi (tp : Nat → Int32) (n i en : Nat) (X2 : Nat → Nat → kX) (p2 : Nat) (nds1 : List kN) : kX := if kt_s tp n p2 < n ∧ tp (kt_s tp n p2) = 44 then (match X2 (kt_s tp n p2 + 1) nds1.length with
  | .inl x => .inl x
  | .inr (p4, nds2) => if kt_s tp n p4 < n ∧ tp (kt_s tp n p4) = 41 then .inr (kt_s tp n p4 + 1, (nds1 ++ nds2) ++ [(i, 0, en + nds1.length - 1, en + (nds1 ++ nds2).length - 1, en, [], [], kx_hf)]) else .inl (1, kt_s tp n p4)) else .inl (1, kt_s tp n p2)
def kx_wh (tp : Nat → Int32) (n en : Nat) (oc : Nat → kO) (p2 : Nat) (nds1 : List kN) : kX := match kw_o tp n oc p2 with
  | .inl x => .inl x
  | .inr (p', tk, cd, H) => .inr (p', nds1 ++ [(13, 0, en + nds1.length - 1, 0, en, tk, cd, H)])
def kx_ops (tp : Nat → Int32) (n i en : Nat) (X1 : Nat → kX) (X2 : Nat → Nat → kX) (oc : Nat → kO) (p : Nat) : kX := if kt_s tp n p < n ∧ tp (kt_s tp n p) = 40 then (match X1 (kt_s tp n p + 1) with
  | .inl x => .inl x
  | .inr (p2, nds1) => if i = 13 then kx_wh tp n en oc p2 nds1 else if 9 ≤ i then kx_bi tp n i en X2 p2 nds1 else kx_un tp n i en p2 nds1) else .inl (1, kt_s tp n p)
theorem kXM.le {D D' n Q p bg en : Nat} {tp : Nat → Int32} {o : kX} (h : kXM D n tp Q p bg en o) (hD : D ≤ D') : kXM D' n tp Q p bg en o := fun g h' s R a b c d e f i j k l => (h g h' s R a b c d e f i j k l).le hD
theorem kMok.tr {Q en bg p1 p2 : Nat} {s s1 s2 : Nat → Nat → Int32} {nds1 nds2 : List kN} (h1 : kMok Q en s s1 p1 bg nds1) (hl : ∀ (j : Nat) (y : kN), nds1[j]? = some y → y.2.2.2.2.2.1.length ≤ 200 ∧ y.2.2.2.2.2.2.1.length ≤ 200) (h2 : kMok Q (en + nds1.length) s1 s2 p2 (bg + nds1.length) nds2) : kMok Q en s s2 p2 bg (nds1 ++ nds2) := by
  obtain ⟨a1, -, -, a4, -, -, a7⟩ := h1
  obtain ⟨b1, b2, b3, b4, b5, b6, b7⟩ := h2
  refine ⟨a1.tr (b1.le (by omega)), b2, b3, b4.trans a4, by rw [b5, List.length_append, Nat.add_assoc], by rw [b6, List.length_append, Nat.add_assoc], fun j y hy => ?_⟩
  rcases Nat.lt_or_ge j nds1.length with c | c
  · rw [List.getElem?_append_left c] at hy
    exact (a7 j y hy).cg (hl j y hy) (fun a ha => b1.2.1 a ha _ (by omega)) (fun a ha j' hj' => b1.2.2 a ha _ (by omega))
  · rw [List.getElem?_append_right c] at hy
    have := b7 _ _ hy
    rw [show 12 * Q + (en + nds1.length) + (j - nds1.length) = 12 * Q + en + j by omega] at this
    exact this
section O4
variable {g : Nat × (Nat → Int32)} {d : Nat} {h : ka_H} {s : Nat → Nat → Int32} {R : ka_R → ka_H → Prop} {n p Q bg en i : Nat} {tp : Nat → Int32}
/-- a fault ahead: an expression does nothing more -/
theorem kxB (hf : kf g h) (hb : ¬ s 72 24 = -1) (hi : i ≤ 13) (e : ∀ s'', kMfr Q en s s'' → s'' 72 24 = s 72 24 → s'' 72 25 = s 72 25 → R (kp_ri 0) (kms h s'')) : ∀ (v : Int32) z, kq_ex g (d + 5) 172 R 118 [.ref 72, .int (nI i), .int v, z] [] (kms h s) := by
  intro v z
  have e0 := e s kMfr.rfl' rfl rfl
  have j149 : ∀ z, kq_ex g (d + 5) 172 R 149 [.ref 72, .int (nI i), .int v, .int z] [] (kms h s) := fun z => by
    refine kq_seg kp_no 20 ?_
    refine kq_cv (kc_need0 hf hb) (kms_f hf) ?_
    exact kq_ci (kc_fine0 hf hb) (kms_f hf) ⟨fun _ => ⟨trivial, e0⟩, fun c => absurd rfl c⟩
  refine kq_seg (fun p => Nat.beq p 149) 40 ⟨fun c => ⟨fun c2 => j149 _, fun c2 => ?_⟩, fun c => ?_⟩
  · refine kq_cv (kc_need0 hf hb) (kms_f hf) ?_
    exact kq_ci (kc_expr0 hf hb) (kms_f hf) (j149 _)
  · exact kc_where0 hf hb ⟨kms_f hf, ⟨trivial, e _ (kMfr.tr (kMfr.u _) (kMfr.u _)) rfl rfl⟩⟩
/-- an operator with operands, behind its word -/
theorem kXM_ops {X1 : Nat → kX} {X2 : Nat → Nat → kX} {oc : Nat → kO} (hf : kf g h) (hT : kT h n tp) (hQ : ka_I h 72 9 = nI Q) (hQ6 : Q < 6) (h23 : s 72 23 = nI p) (hpn : p ≤ n) (h24 : s 72 24 = -1) (h26 : s 72 26 = nI 0) (h27 : s 72 27 = nI (bg + 1)) (hen : s 79 Q = nI en) (hbe : en ≤ bg) (hb12 : bg < 12) (hi : 1 ≤ i ∧ i ≤ 13)
    (hX1 : ∀ p', p < p' → p' ≤ n → kXM (d + 41) n tp Q p' (bg + 1) en (X1 p') ∧ kXP n p' (bg + 1) en (X1 p'))
    (hX2 : ∀ p' k, p < p' → p' ≤ n → bg + 1 + k ≤ 12 → kXM (d + 41) n tp Q p' (bg + 1 + k) (en + k) (X2 p' k) ∧ kXP n p' (bg + 1 + k) (en + k) (X2 p' k))
    (hoc : ∀ p', p < p' → p' ≤ n → kMd (MP 0 + 2) 178 n tp p' 0 (oc p') ∧ kPd n p' 16 (oc p'))
    (e1 : ∀ kd pl s', kx_ops tp n i en X1 X2 oc p = .inl (kd, pl) → kMfr Q en s s' → s' 72 24 = nI pl → s' 72 25 = nI kd → R (kp_ri 0) (kms h s')) (e2 : ∀ p' nds s', kx_ops tp n i en X1 X2 oc p = .inr (p', nds) → kMok Q en s s' p' bg nds → R (kp_ri (nI (en + nds.length - 1))) (kms h s')) : kq_ex g (d + 41) 172 R 107 [.ref 72, .int (nI i), .retAddr 0, .retAddr 0] [] (kms h s) := by
  have h200 := hT.2.1
  have hle := kt_s_le tp n p hpn
  have hbadS : ∀ s' kd pl, pl ≤ 200 → kx_ops tp n i en X1 X2 oc p = .inl (kd, pl) → kMfr Q en s s' → s' 72 24 = nI pl → s' 72 25 = nI kd → ∀ (v : Int32) z, kq_ex g (d + 41) 172 R 118 [.ref 72, .int (nI i), .int v, z] [] (kms h s') := fun s' kd pl hpl hk hfr c24 c25 => kxB (d := d + 36) (Q := Q) (en := en) hf (by rw [c24]; exact nI_ne_m1 (by omega)) hi.2 (fun s'' f1 f2 f3 => e1 kd pl s'' hk (hfr.tr f1) (f2.trans c24) (f3.trans c25))
  have htail : ∀ (s2 : Nat → Nat → Int32) (p2 : Nat) (nds1 : List kN), X1 (kt_s tp n p + 1) = .inr (p2, nds1) → (kt_s tp n p < n ∧ tp (kt_s tp n p) = 40) → kMok Q en s s2 p2 (bg + 1) nds1 → kq_ex g (d + 41) 172 R 118 [.ref 72, .int (nI i), .int (nI (en + nds1.length - 1)), .retAddr 0] [] (kms h s2) := by
    intro s2 p2 nds1 ho hop hok
    have hP1 := (hX1 (kt_s tp n p + 1) (by omega) (by omega)).2.2 p2 nds1 ho
    have hle2 := kt_s_le tp n p2 hP1.2.1
    have hl1 : ∀ (j : Nat) (y : kN), nds1[j]? = some y → y.2.2.2.2.2.1.length ≤ 200 ∧ y.2.2.2.2.2.2.1.length ≤ 200 := fun j y hy => (hP1.2.2.2.2 j y hy).2.2.2.2.2.2.2.2.2
    have hcut : kx_ops tp n i en X1 X2 oc p = if i = 13 then kx_wh tp n en oc p2 nds1 else if 9 ≤ i then kx_bi tp n i en X2 p2 nds1 else kx_un tp n i en p2 nds1 := by
      unfold kx_ops
      rw [if_pos hop, ho]
    have m27 : s2 72 27 = nI (bg + 1 + nds1.length) := hok.2.2.2.2.1
    have m79 : s2 79 Q = nI (en + nds1.length) := hok.2.2.2.2.2.1
    have hbad149 : ∀ s' kd pl (v : Int32), pl ≤ 200 → kx_ops tp n i en X1 X2 oc p = .inl (kd, pl) → kMfr Q en s s' → s' 72 24 = nI pl → s' 72 25 = nI kd → kq_ex g (d + 41) 172 R 149 [.ref 72, .int (nI i), .int (nI (en + nds1.length - 1)), .int v] [] (kms h s') := by
      intro s' kd pl v hpl hk hfr c24 c25
      have hb' : ¬ s' 72 24 = -1 := by rw [c24]; exact nI_ne_m1 (by omega)
      refine kq_seg kp_no 20 ?_
      refine kq_cv (kc_need0 hf hb') (kms_f hf) ?_
      exact kq_ci (kc_fine0 hf hb') (kms_f hf) ⟨fun _ => ⟨trivial, e1 kd pl s' hk hfr c24 c25⟩, fun c => absurd rfl c⟩
    -- the end: the closing sign, then the node
    have hend : ∀ (s3 : Nat → Nat → Int32) (p3 : Nat) (nds : List kN) (v : Int32) (o2 : Nat), i ≠ 13 → kMok Q en s s3 p3 (bg + 1) nds → nds1.length ≤ nds.length → bg + 1 + nds.length ≤ 12 → p3 ≤ n → (∀ (j : Nat) (y : kN), nds[j]? = some y → y.2.2.2.2.2.1.length ≤ 200 ∧ y.2.2.2.2.2.2.1.length ≤ 200) → v = (if 9 ≤ i ∧ i ≤ 12 then nI o2 else -1) →
        (kx_ops tp n i en X1 X2 oc p = if kt_s tp n p3 < n ∧ tp (kt_s tp n p3) = 41 then .inr (kt_s tp n p3 + 1, nds ++ [(i, 0, en + nds1.length - 1, o2, en, [], [], kx_hf)]) else .inl (1, kt_s tp n p3)) → kq_ex g (d + 41) 172 R 149 [.ref 72, .int (nI i), .int (nI (en + nds1.length - 1)), .int v] [] (kms h s3) := by
      intro s3 p3 nds v o2 hi13 hok3 hlen hbn hp3 hl3 hv hko
      have hle3 := kt_s_le tp n p3 hp3
      refine kq_seg kp_no 30 ?_
      refine kc_need hf hT hok3.2.1 hp3 hok3.2.2.1 (by decide) (fun c1 c2 => ⟨kms_f hf, ?_⟩) (fun c1 => ⟨kms_f hf, ?_⟩)
      · rw [if_pos (show kt_s tp n p3 < n ∧ tp (kt_s tp n p3) = 41 from ⟨c1, c2⟩)] at hko
        refine kq_ci (kc_fine1 hf (s := kt_at s3 (kt_s tp n p3 + 1)) hok3.2.2.1) (kms_f hf) ⟨fun c => absurd c (by decide), fun _ => ?_⟩
        refine kc_node (s := kt_at s3 (kt_s tp n p3 + 1)) (op := nI i) (tab := 0) (a := nI (en + nds1.length - 1)) (b := v) hf hQ hQ6 (en := en + nds.length) hok3.2.2.2.2.2.1 (by omega) ⟨kms_f hf, ⟨trivial, ?_⟩⟩
        obtain ⟨n1, n2, n3, n4, n5, n6, n7, n8, n9, n10⟩ := kt_nd_n (s := kt_at s3 (kt_s tp n p3 + 1)) (Q := Q) (en := en + nds.length) (op := i) (tab := 0) (a := nI (en + nds1.length - 1)) (b := v) hi13 hi.2
        have hfin := e2 _ _ (kt_nd (kt_at s3 (kt_s tp n p3 + 1)) (12 * Q + (en + nds.length)) Q (en + nds.length) (nI i) 0 (nI (en + nds1.length - 1)) v) hko (kMok.snoc (bg := bg) hok3 hl3 ?_ ?_ ?_ ?_ ?_ ?_ ?_)
        · simp only [List.length_append, List.length_singleton] at hfin
          rw [show en + (nds.length + 1) - 1 = en + nds.length by omega] at hfin
          exact hfin
        · refine ⟨fun q hq => ?_, fun a ha i' hi' => ?_, fun a ha j hj => ?_⟩
          · rw [n3 q hq]
            exact ka_uN _ _ _ _ (by decide) _
          · rw [n1 a i' (by omega) (by omega)]
            exact ka_uN _ _ _ _ (by omega) _
          · rw [n2 a (by omega)]
            exact ka_uN _ _ _ _ (by omega) _
        · rw [n2 72 (by omega)]; exact ka_uS _ _ _ _
        · rw [n2 72 (by omega)]; exact hok3.2.2.1
        · rw [n2 72 (by omega)]; rfl
        · rw [n2 72 (by omega)]
          show s3 72 27 = _
          rw [hok3.2.2.2.2.1, Nat.add_right_comm]
        · rw [n4]
        · rw [show 12 * Q + en + nds.length = 12 * Q + (en + nds.length) by omega]
          refine ⟨n5, ?_, ?_, ?_, n9, n10, fun j hj => absurd hj (Nat.not_lt_zero j), fun j hj => absurd hj (Nat.not_lt_zero j)⟩
          · show _ = (if i = 0 then nI 0 else 0)
            rw [n6, if_neg (by omega)]
          · show _ = (if i = 0 then -1 else nI (en + nds1.length - 1))
            rw [n7, if_neg (by omega)]
          · show _ = (if 9 ≤ i ∧ i ≤ 12 then nI o2 else -1)
            rw [n8, hv]
      · rw [if_neg (show ¬ (kt_s tp n p3 < n ∧ tp (kt_s tp n p3) = 41) from c1)] at hko
        have hb' : ¬ (kt_bad (kt_at s3 (kt_s tp n p3)) 1 (nI (kt_s tp n p3))) 72 24 = -1 := nI_ne_m1 (by omega)
        exact kq_ci (kc_fine0 hf hb') (kms_f hf) ⟨fun _ => ⟨trivial, e1 1 _ _ hko (hok3.1.tr (kMfr.tr (kMfr.u _) (kMfr.tr (kMfr.u _) (kMfr.u _)))) rfl rfl⟩, fun c => absurd rfl c⟩
    refine kq_seg (fun p => Nat.beq p 149) 40 ⟨fun c => ?_, fun c => ?_⟩
    · have hi13 : i ≠ 13 := fun z => c (by rw [z]; rfl)
      rw [if_neg hi13] at hcut
      refine ⟨fun c2 => ?_, fun c2 => ?_⟩
      · have hi9 : ¬ 9 ≤ i := by
          have := (nI_ltI (b := 9) (by omega) (by omega)).mp c2
          omega
        rw [if_neg hi9] at hcut
        exact hend s2 p2 nds1 _ 0 hi13 hok (Nat.le_refl _) hP1.2.2.2.1 hP1.2.1 hl1 (by rw [if_neg (by omega)]; rfl) (by rw [hcut]; rfl)
      · have hi9 : 9 ≤ i := by
          rcases Nat.lt_or_ge i 9 with z | z
          · exact absurd (nI_lt (b := 9) z (by omega)) c2
          · exact z
        rw [if_pos hi9] at hcut
        unfold kx_bi at hcut
        refine kc_need hf hT hok.2.1 hP1.2.1 hok.2.2.1 (by decide) (fun c3 c4 => ⟨kms_f hf, ?_⟩) (fun c3 => ⟨kms_f hf, ?_⟩)
        · rw [if_pos (show kt_s tp n p2 < n ∧ tp (kt_s tp n p2) = 44 from ⟨c3, c4⟩)] at hcut
          obtain ⟨hM2, hP2⟩ := hX2 (kt_s tp n p2 + 1) nds1.length (by omega) (by omega) hP1.2.2.2.1
          refine hM2 g h (kt_at s2 (kt_s tp n p2 + 1)) _ hf hT hQ (ka_uS _ _ _ _) hok.2.2.1 (hok.2.2.2.1.trans h26) m27 m79 (fun kd pl s' ho2 hfr c24 c25 => ⟨kms_f hf, ?_⟩) (fun p4 nds2 s4 ho2 hok4 => ⟨kms_f hf, ?_⟩)
          · have hpl := hP2.1 kd pl ho2
            rw [ho2] at hcut
            exact hbad149 s' kd pl _ (by omega) hcut (hok.1.tr ((kMfr.u _).tr (hfr.le (by omega)))) c24 c25
          · have hP4 := hP2.2 p4 nds2 ho2
            rw [ho2] at hcut
            have hok' : kMok Q en s (kt_at s2 (kt_s tp n p2 + 1)) (kt_s tp n p2 + 1) (bg + 1) nds1 := ⟨hok.1.tr (kMfr.u _), ka_uS _ _ _ _, hok.2.2.1, hok.2.2.2.1, m27, m79, hok.2.2.2.2.2.2⟩
            have hokA : kMok Q en s s4 p4 (bg + 1) (nds1 ++ nds2) := hok'.tr hl1 hok4
            refine hend s4 p4 (nds1 ++ nds2) _ (en + (nds1 ++ nds2).length - 1) hi13 hokA (by simp) (by rw [List.length_append]; omega) hP4.2.1 (fun j y hy => ?_) (by rw [if_pos ⟨hi9, by omega⟩, List.length_append, Nat.add_assoc]) hcut
            rcases Nat.lt_or_ge j nds1.length with z | z
            · rw [List.getElem?_append_left z] at hy
              exact hl1 j y hy
            · rw [List.getElem?_append_right z] at hy
              exact (hP4.2.2.2.2 _ y hy).2.2.2.2.2.2.2.2.2
        · rw [if_neg (show ¬ (kt_s tp n p2 < n ∧ tp (kt_s tp n p2) = 44) from c3)] at hcut
          have hb' : ¬ (kt_bad (kt_at s2 (kt_s tp n p2)) 1 (nI (kt_s tp n p2))) 72 24 = -1 := nI_ne_m1 (by omega)
          refine kq_ci (kc_expr0 hf hb') (kms_f hf) ?_
          exact hbad149 _ 1 (kt_s tp n p2) _ (by omega) hcut (hok.1.tr (kMfr.tr (kMfr.u _) (kMfr.tr (kMfr.u _) (kMfr.u _)))) rfl rfl
    · have hi13 : i = 13 := (nI_eq (b := 13) (by omega) (by omega)).mp c
      rw [if_pos hi13] at hcut
      unfold kx_wh at hcut
      refine kc_readWhere (d := d) (oc := oc) (s := s2) hf hT hQ hQ6 hok.2.1 hP1.2.1 hok.2.2.1 (hok.2.2.2.1.trans h26) (en := en + nds1.length) m79 (by omega) (fun p' y1 y2 => hoc p' (by omega) y2) (fun kd pl s' hk hfr c24 c25 => ⟨kms_f hf, ⟨trivial, ?_⟩⟩) (fun p' tk cd H s' hk hfr c23 c24 c26 c27 c79 hfa => ⟨kms_f hf, ⟨trivial, ?_⟩⟩)
      · rw [hk] at hcut
        exact e1 kd pl s' hcut (hok.1.tr (hfr.le (by omega))) c24 c25
      · rw [hk] at hcut
        have hfin := e2 _ _ s' hcut (kMok.snoc (bg := bg) hok hl1 hfr c23 c24 c26 (by rw [c27, m27, Nat.add_right_comm]) c79 ?_)
        · simp only [List.length_append, List.length_singleton] at hfin
          rw [show en + (nds1.length + 1) - 1 = en + nds1.length by omega] at hfin
          exact hfin
        · rw [show 12 * Q + en + nds1.length = 12 * Q + (en + nds1.length) by omega]
          exact hfa
  refine kq_seg (fun p => Nat.beq p 118) 20 ?_
  refine kc_need hf hT h23 hpn h24 (by decide) (fun c1 c2 => ⟨kms_f hf, ?_⟩) (fun c1 => ⟨kms_f hf, ?_⟩)
  · obtain ⟨hM1, hP1⟩ := hX1 (kt_s tp n p + 1) (by omega) (by omega)
    have hop : kt_s tp n p < n ∧ tp (kt_s tp n p) = 40 := ⟨c1, c2⟩
    refine hM1 g h (kt_at s (kt_s tp n p + 1)) _ hf hT hQ (ka_uS _ _ _ _) h24 h26 h27 hen (fun kd pl s' ho hfr c24 c25 => ⟨kms_f hf, ?_⟩) (fun p2 nds1 s2 ho hok => ⟨kms_f hf, ?_⟩)
    · have hpl := hP1.1 kd pl ho
      refine hbadS s' kd pl (by omega) ?_ (kMfr.tr (kMfr.u _) hfr) c24 c25 _ _
      unfold kx_ops
      rw [if_pos hop, ho]
    · exact htail s2 p2 nds1 ho hop ⟨kMfr.tr (kMfr.u _) hok.1, hok.2.1, hok.2.2.1, hok.2.2.2.1, hok.2.2.2.2.1, hok.2.2.2.2.2.1, hok.2.2.2.2.2.2⟩
  · have hb' : ¬ (kt_bad (kt_at s (kt_s tp n p)) 1 (nI (kt_s tp n p))) 72 24 = -1 := nI_ne_m1 (by omega)
    refine kq_ci (kc_expr0 hf hb') (kms_f hf) ?_
    refine hbadS _ 1 (kt_s tp n p) (by omega) ?_ (kMfr.tr (kMfr.u _) (kMfr.tr (kMfr.u _) (kMfr.u _))) rfl rfl _ _
    unfold kx_ops
    rw [if_neg (show ¬ (kt_s tp n p < n ∧ tp (kt_s tp n p) = 40) from c1)]
end O4
