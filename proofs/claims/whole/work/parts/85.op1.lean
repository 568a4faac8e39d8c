/-! ===== operators: what both sides read; the reference's nodes ===== -/
/-- an operator that was read: its number, table, operands' places, the first node below it, its signs, code, rows -/
abbrev kN : Type := Nat × Nat × Nat × Nat × Nat × List Nat × List Int32 × (Nat → Nat → Bool)
abbrev kX : Type := (Nat × Nat) ⊕ (Nat × List kN)
def kMn (s : Nat → Nat → Int32) (i : Nat) (x : kN) : Prop := s 80 i = nI x.1 ∧ s 81 i = (if x.1 = 0 then nI x.2.1 else 0) ∧ s 82 i = (if x.1 = 0 then -1 else nI x.2.2.1) ∧ s 83 i = (if 9 ≤ x.1 ∧ x.1 ≤ 12 then nI x.2.2.2.1 else -1) ∧ s 86 i = nI x.2.2.2.2.2.1.length ∧ s 88 i = nI x.2.2.2.2.2.2.1.length ∧ (∀ j, j < x.2.2.2.2.2.1.length → s 85 (200 * i + j) = tM (x.2.2.2.2.2.1.getD j 0)) ∧ ∀ j, j < x.2.2.2.2.2.2.1.length → s 87 (200 * i + j) = x.2.2.2.2.2.2.1.getD j 0
/-- the nodes below this one stand -/
def kMfr (Q en : Nat) (s s' : Nat → Nat → Int32) : Prop := (∀ q, q ≠ Q → s' 79 q = s 79 q) ∧ (∀ a, a = 80 ∨ a = 81 ∨ a = 82 ∨ a = 83 ∨ a = 86 ∨ a = 88 → ∀ i, i < 12 * Q + en → s' a i = s a i) ∧ ∀ a, a = 85 ∨ a = 87 → ∀ j, j < 200 * (12 * Q + en) → s' a j = s a j
theorem kMfr.rfl' {Q en : Nat} {s : Nat → Nat → Int32} : kMfr Q en s s := ⟨fun _ _ => rfl, fun _ _ _ _ => rfl, fun _ _ _ _ => rfl⟩
theorem kMfr.tr {Q en : Nat} {s s1 s2 : Nat → Nat → Int32} (h1 : kMfr Q en s s1) (h2 : kMfr Q en s1 s2) : kMfr Q en s s2 := ⟨fun q x => (h2.1 q x).trans (h1.1 q x), fun a x i y => (h2.2.1 a x i y).trans (h1.2.1 a x i y), fun a x i y => (h2.2.2 a x i y).trans (h1.2.2 a x i y)⟩
theorem kMfr.le {Q en en' : Nat} {s s1 : Nat → Nat → Int32} (h1 : kMfr Q en s s1) (h : en' ≤ en) : kMfr Q en' s s1 := ⟨h1.1, fun a x i y => h1.2.1 a x i (by omega), fun a x i y => h1.2.2 a x i (by omega)⟩
theorem kMfr.u {Q en k : Nat} {s : Nat → Nat → Int32} (v : Int32) : kMfr Q en s (ka_u s 72 k v) := ⟨fun q _ => ka_uN _ _ _ _ (by decide) _, fun a x i _ => ka_uN _ _ _ _ (by omega) _, fun a x j _ => ka_uN _ _ _ _ (by omega) _⟩
theorem kt_fr.m {Q en : Nat} {s s' : Nat → Nat → Int32} (h : kt_fr s s') : kMfr Q en s s' := ⟨fun q _ => congrFun (h.1 79 (by decide) (by decide) (by decide)) q, fun a x i _ => congrFun (h.1 a (by omega) (by omega) (by omega)) i, fun a x j _ => congrFun (h.1 a (by omega) (by omega) (by omega)) j⟩
theorem kMn.cg {s s' : Nat → Nat → Int32} {i : Nat} {x : kN} (h : kMn s i x) (hl : x.2.2.2.2.2.1.length ≤ 200 ∧ x.2.2.2.2.2.2.1.length ≤ 200) (e : ∀ a, a = 80 ∨ a = 81 ∨ a = 82 ∨ a = 83 ∨ a = 86 ∨ a = 88 → s' a i = s a i) (e2 : ∀ a, a = 85 ∨ a = 87 → ∀ j, j < 200 * (i + 1) → s' a j = s a j) : kMn s' i x := by
  obtain ⟨h1, h2, h3, h4, h5, h6, h7, h8⟩ := h
  exact ⟨(e 80 (by omega)).trans h1, (e 81 (by omega)).trans h2, (e 82 (by omega)).trans h3, (e 83 (by omega)).trans h4, (e 86 (by omega)).trans h5, (e 88 (by omega)).trans h6, fun j hj => (e2 85 (by omega) _ (by omega)).trans (h7 j hj), fun j hj => (e2 87 (by omega) _ (by omega)).trans (h8 j hj)⟩
def kMok (Q en : Nat) (s s' : Nat → Nat → Int32) (p' bg : Nat) (nds : List kN) : Prop := kMfr Q en s s' ∧ s' 72 23 = nI p' ∧ s' 72 24 = -1 ∧ s' 72 26 = s 72 26 ∧ s' 72 27 = nI (bg + nds.length) ∧ s' 79 Q = nI (en + nds.length) ∧ ∀ j x, nds[j]? = some x → kMn s' (12 * Q + en + j) x
/-- the reference reads an operator so -/
def kXM (D n : Nat) (tp : Nat → Int32) (Q p bg en : Nat) (o : kX) : Prop := ∀ (g : Nat × (Nat → Int32)) (h : ka_H) (s : Nat → Nat → Int32) (R : ka_R → ka_H → Prop), kf g h → kT h n tp → ka_I h 72 9 = nI Q → s 72 23 = nI p → s 72 24 = -1 → s 72 26 = nI 0 → s 72 27 = nI bg → s 79 Q = nI en →
  (∀ kd pl s', o = .inl (kd, pl) → kMfr Q en s s' → s' 72 24 = nI pl → s' 72 25 = nI kd → R (kp_ri 0) (kms h s')) → (∀ p' nds s', o = .inr (p', nds) → kMok Q en s s' p' bg nds → R (kp_ri (nI (en + nds.length - 1))) (kms h s')) → kp_T D 172 [.ref 72] (kms h s) R
/-- the texts' bounds -/
def kXP (n p bg en : Nat) (o : kX) : Prop := (∀ kd pl, o = .inl (kd, pl) → pl ≤ n ∧ 1 ≤ kd ∧ kd ≤ 3) ∧ ∀ p' nds, o = .inr (p', nds) → p < p' ∧ p' ≤ n ∧ 1 ≤ nds.length ∧ bg + nds.length ≤ 12 ∧ ∀ j x, nds[j]? = some x → x.1 ≤ 13 ∧ (x.1 = 0 → x.2.1 < 4) ∧ (1 ≤ x.1 → x.2.2.1 < en + j) ∧ (9 ≤ x.1 → x.1 ≤ 12 → x.2.2.2.1 < en + j) ∧ x.2.2.2.2.1 ≤ en + j ∧ (1 ≤ x.1 → x.2.2.2.2.1 ≤ x.2.2.1) ∧ (9 ≤ x.1 → x.1 ≤ 12 → x.2.2.2.2.1 ≤ x.2.2.2.1) ∧ (x.1 = 13 → kv_cx x.2.2.2.2.2.2.1 x.2.2.2.2.2.2.2 16 ∧ (∀ c, c ∈ x.2.2.2.2.2.1 → kt_vc c)) ∧ (x.1 ≠ 13 → x.2.2.2.2.2.1 = [] ∧ x.2.2.2.2.2.2.1 = []) ∧ x.2.2.2.2.2.1.length ≤ 200 ∧ x.2.2.2.2.2.2.1.length ≤ 200
section O1
variable {g : Nat × (Nat → Int32)} {d : Nat} {h : ka_H} {s : Nat → Nat → Int32} {R : ka_R → ka_H → Prop} {n p Q bg en : Nat} {tp : Nat → Int32}
/-- a node is written down -/
def kt_nd (s : Nat → Nat → Int32) (i Q en : Nat) (op tab a b : Int32) : Nat → Nat → Int32 := ka_u (if op = 13 then ka_u (ka_u (ka_u (ka_u s 80 i op) 81 i tab) 82 i a) 83 i b else ka_u (ka_u (ka_u (ka_u (ka_u (ka_u s 80 i op) 81 i tab) 82 i a) 83 i b) 86 i 0) 88 i 0) 79 Q (nI (en + 1))
theorem kc_node (hf : kf g h) (hQ : ka_I h 72 9 = nI Q) (hQ6 : Q < 6) (hen : s 79 Q = nI en) (h12 : en < 12) {op tab a b : Int32} (e : R (kp_ri (nI en)) (kms h (kt_nd s (12 * Q + en) Q en op tab a b))) : kp_T (d + 1) 171 [.ref 72, .int op, .int tab, .int a, .int b] (kms h s) R := by
  have hix : Int32.ofInt 12 * nI Q + nI en = nI (12 * Q + en) := by rw [nI_12m, nI_add]
  have hrd : ka_I (kms h s) 72 9 = nI Q := (kms_N rfl).trans hQ
  have j78 : ∀ (s1 : Nat → Nat → Int32), s1 79 Q = nI en → R (kp_ri (nI en)) (kms h (ka_u s1 79 Q (nI (en + 1)))) → kq_ex g d 171 R 78 [.ref 72, .int op, .int tab, .int a, .int b, .int (nI en), .int (nI (12 * Q + en))] [] (kms h s1) := by
    intro s1 h1 e
    have hrd1 : ka_I (kms h s1) 72 9 = nI Q := (kms_N rfl).trans hQ
    refine kq_seg kp_no 20 ⟨?_, ⟨?_, ?_⟩⟩
    · rw [hrd1]; exact nI_in (N := 6) hQ6 (by omega)
    · rw [hrd1]; exact nI_in (N := 6) hQ6 (by omega)
    · rw [hrd1, nI_clamp (by omega)]
      rw [show ka_I (kms h s1) (kq_p (kms h s1) 72 11) Q = nI en from (kms_I (a := 79) rfl).trans h1]
      rw [show nI en + Int32.ofInt 1 = nI (en + 1) from (nI_succ en).symm, show ka_sI (kms h s1) (kq_p (kms h s1) 72 11) Q (nI (en + 1)) = kms h (ka_u s1 79 Q (nI (en + 1))) from kms_sI (a := 79) _ rfl]
      exact ⟨trivial, e⟩
  refine kq_in (kms_f hf) rfl rfl rfl (kq_seg (fun p => Nat.beq p 78) 60 ⟨?_, ?_⟩)
  · rw [hrd]; exact nI_in (N := 6) hQ6 (by omega)
  · rw [hrd, nI_clamp (by omega), show ka_I (kms h s) (kq_p (kms h s) 72 11) Q = nI en from (kms_I (a := 79) rfl).trans hen]
    refine ⟨by rw [hrd, hix]; exact nI_in (N := 72) (by omega) (by omega), ?_⟩
    rw [hrd, hix, nI_clamp (by omega), show ka_sI (kms h s) (kq_p (kms h s) 72 12) (12 * Q + en) op = kms h (ka_u s 80 (12 * Q + en) op) from kms_sI (a := 80) _ rfl]
    refine ⟨nI_in (N := 72) (by omega) (by omega), ?_⟩
    rw [nI_clamp (by omega)]
    rw [show ∀ s1, ka_sI (kms h s1) (kq_p (kms h s1) 72 13) (12 * Q + en) tab = kms h (ka_u s1 81 (12 * Q + en) tab) from fun s1 => kms_sI (a := 81) _ rfl]
    refine ⟨nI_in (N := 72) (by omega) (by omega), ?_⟩
    rw [nI_clamp (by omega)]
    rw [show ∀ s1, ka_sI (kms h s1) (kq_p (kms h s1) 72 14) (12 * Q + en) a = kms h (ka_u s1 82 (12 * Q + en) a) from fun s1 => kms_sI (a := 82) _ rfl]
    refine ⟨nI_in (N := 72) (by omega) (by omega), ?_⟩
    rw [nI_clamp (by omega)]
    rw [show ∀ s1, ka_sI (kms h s1) (kq_p (kms h s1) 72 15) (12 * Q + en) b = kms h (ka_u s1 83 (12 * Q + en) b) from fun s1 => kms_sI (a := 83) _ rfl]
    unfold kt_nd at e
    refine ⟨fun (c : op = 13) => ?_, fun (c : ¬ op = 13) => ⟨nI_in (N := 72) (by omega) (by omega), ?_⟩⟩
    · rw [if_pos c] at e
      refine j78 _ ?_ e
      rw [ka_uN _ _ _ _ (by decide), ka_uN _ _ _ _ (by decide), ka_uN _ _ _ _ (by decide), ka_uN _ _ _ _ (by decide)]
      exact hen
    · rw [if_neg c] at e
      rw [nI_clamp (by omega)]
      rw [show ∀ s1, ka_sI (kms h s1) (kq_p (kms h s1) 72 18) (12 * Q + en) (Int32.ofInt 0) = kms h (ka_u s1 86 (12 * Q + en) 0) from fun s1 => kms_sI (a := 86) _ rfl]
      refine ⟨nI_in (N := 72) (by omega) (by omega), ?_⟩
      rw [nI_clamp (by omega)]
      rw [show ∀ s1, ka_sI (kms h s1) (kq_p (kms h s1) 72 20) (12 * Q + en) (Int32.ofInt 0) = kms h (ka_u s1 88 (12 * Q + en) 0) from fun s1 => kms_sI (a := 88) _ rfl]
      refine j78 _ ?_ e
      rw [ka_uN _ _ _ _ (by decide), ka_uN _ _ _ _ (by decide), ka_uN _ _ _ _ (by decide), ka_uN _ _ _ _ (by decide), ka_uN _ _ _ _ (by decide), ka_uN _ _ _ _ (by decide)]
      exact hen
/-- the node that was written down, no where -/
theorem kt_nd_n {op : Nat} {tab a b : Int32} (h13 : op ≠ 13) (hop : op ≤ 13) : (∀ c i', i' ≠ 12 * Q + en → c ≠ 79 → kt_nd s (12 * Q + en) Q en (nI op) tab a b c i' = s c i') ∧ (∀ c, c = 72 ∨ c = 85 ∨ c = 87 ∨ c = 90 ∨ c = 91 → kt_nd s (12 * Q + en) Q en (nI op) tab a b c = s c) ∧ (∀ q, q ≠ Q → kt_nd s (12 * Q + en) Q en (nI op) tab a b 79 q = s 79 q) ∧ kt_nd s (12 * Q + en) Q en (nI op) tab a b 79 Q = nI (en + 1) ∧
    kt_nd s (12 * Q + en) Q en (nI op) tab a b 80 (12 * Q + en) = nI op ∧ kt_nd s (12 * Q + en) Q en (nI op) tab a b 81 (12 * Q + en) = tab ∧ kt_nd s (12 * Q + en) Q en (nI op) tab a b 82 (12 * Q + en) = a ∧ kt_nd s (12 * Q + en) Q en (nI op) tab a b 83 (12 * Q + en) = b ∧ kt_nd s (12 * Q + en) Q en (nI op) tab a b 86 (12 * Q + en) = 0 ∧ kt_nd s (12 * Q + en) Q en (nI op) tab a b 88 (12 * Q + en) = 0 := by
  unfold kt_nd
  rw [if_neg (show ¬ nI op = 13 from fun z => h13 ((nI_eq (b := 13) (by omega) (by omega)).mp z))]
  refine ⟨fun c i' hi hc => ?_, fun c hc => ?_, fun q hq => ?_, ka_uS _ _ _ _, ?_, ?_, ?_, ?_, ?_, ?_⟩
  · rw [ka_uN _ _ _ _ hc, ka_uJ _ _ _ _ _ hi, ka_uJ _ _ _ _ _ hi, ka_uJ _ _ _ _ _ hi, ka_uJ _ _ _ _ _ hi, ka_uJ _ _ _ _ _ hi, ka_uJ _ _ _ _ _ hi]
  · funext j
    rw [ka_uN _ _ _ _ (by omega), ka_uN _ _ _ _ (by omega), ka_uN _ _ _ _ (by omega), ka_uN _ _ _ _ (by omega), ka_uN _ _ _ _ (by omega), ka_uN _ _ _ _ (by omega), ka_uN _ _ _ _ (by omega)]
  · rw [ka_uJ _ _ _ _ _ hq, ka_uN _ _ _ _ (by decide), ka_uN _ _ _ _ (by decide), ka_uN _ _ _ _ (by decide), ka_uN _ _ _ _ (by decide), ka_uN _ _ _ _ (by decide), ka_uN _ _ _ _ (by decide)]
  · rw [ka_uN _ _ _ _ (by decide), ka_uN _ _ _ _ (by decide), ka_uN _ _ _ _ (by decide), ka_uN _ _ _ _ (by decide), ka_uN _ _ _ _ (by decide), ka_uN _ _ _ _ (by decide), ka_uS]
  · rw [ka_uN _ _ _ _ (by decide), ka_uN _ _ _ _ (by decide), ka_uN _ _ _ _ (by decide), ka_uN _ _ _ _ (by decide), ka_uN _ _ _ _ (by decide), ka_uS]
  · rw [ka_uN _ _ _ _ (by decide), ka_uN _ _ _ _ (by decide), ka_uN _ _ _ _ (by decide), ka_uN _ _ _ _ (by decide), ka_uS]
  · rw [ka_uN _ _ _ _ (by decide), ka_uN _ _ _ _ (by decide), ka_uN _ _ _ _ (by decide), ka_uS]
  · rw [ka_uN _ _ _ _ (by decide), ka_uN _ _ _ _ (by decide), ka_uS]
  · rw [ka_uN _ _ _ _ (by decide), ka_uS]
/-- one more node: what was read, and it -/
theorem kMok.snoc {s1 s2 : Nat → Nat → Int32} {p1 p2 bg bg1 : Nat} {nds : List kN} {x : kN} (h1 : kMok Q en s s1 p1 bg1 nds) (hl : ∀ (j : Nat) (y : kN), nds[j]? = some y → y.2.2.2.2.2.1.length ≤ 200 ∧ y.2.2.2.2.2.2.1.length ≤ 200) (hfr : kMfr Q (en + nds.length) s1 s2) (h23 : s2 72 23 = nI p2) (h24 : s2 72 24 = -1) (h26 : s2 72 26 = s1 72 26) (h27 : s2 72 27 = nI (bg + nds.length + 1)) (h79 : s2 79 Q = nI (en + nds.length + 1)) (hx : kMn s2 (12 * Q + en + nds.length) x) : kMok Q en s s2 p2 bg (nds ++ [x]) := by
  obtain ⟨a1, -, -, a4, -, -, a7⟩ := h1
  refine ⟨a1.tr (hfr.le (by omega)), h23, h24, h26.trans a4, by rw [h27, List.length_append]; rfl, by rw [h79, List.length_append]; rfl, fun j y hy => ?_⟩
  rcases Nat.lt_or_ge j nds.length with c | c
  · rw [List.getElem?_append_left c] at hy
    exact (a7 j y hy).cg (hl j y hy) (fun a ha => hfr.2.1 a ha _ (by omega)) (fun a ha j' hj' => hfr.2.2 a ha _ (by omega))
  · rw [List.getElem?_append_right c] at hy
    have hj : j = nds.length := by
      rcases Nat.eq_or_lt_of_le c with z | z
      · exact z.symm
      · rw [List.getElem?_eq_none (by simp; omega)] at hy
        cases hy
    rw [hj, Nat.sub_self] at hy
    have : x = y := by simpa using hy
    rw [hj, ← this]
    exact hx
end O1
