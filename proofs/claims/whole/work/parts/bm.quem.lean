/-! ===== the reference: a question is there ===== -/
section QM
variable {g : Nat × (Nat → Int32)} {h X : ka_H} {Q : kAq} {nds : List kN} {c : Nat}
/-- the cells that a question's nodes lie in, below M -/
def kLo (h X : ka_H) (M : Nat) : Prop := (∀ a, a = 80 ∨ a = 81 ∨ a = 82 ∨ a = 83 ∨ a = 86 ∨ a = 88 → ∀ i, i < M → ka_I X a i = ka_I h a i) ∧ ∀ a, a = 85 ∨ a = 87 → ∀ j, j < 200 * M → ka_I X a j = ka_I h a j
theorem kMn_lo {i M : Nat} {x : kN} (q : kMn (ka_I h) i x) (hi : i < M) (l1 : x.2.2.2.2.2.1.length ≤ 200) (l2 : x.2.2.2.2.2.2.1.length ≤ 200) (e : kLo h X M) : kMn (ka_I X) i x := by
  obtain ⟨q1, q2, q3, q4, q5, q6, q7, q8⟩ := q
  refine ⟨(e.1 80 (by omega) i hi).trans q1, (e.1 81 (by omega) i hi).trans q2, (e.1 82 (by omega) i hi).trans q3, (e.1 83 (by omega) i hi).trans q4, (e.1 86 (by omega) i hi).trans q5, (e.1 88 (by omega) i hi).trans q6, fun j hj => (e.2 85 (by omega) _ (by omega)).trans (q7 j hj), fun j hj => (e.2 87 (by omega) _ (by omega)).trans (q8 j hj)⟩
theorem kmq.lo (m : kmq Q h) (wq : kWq c Q) (e : kLo h X (12 * qQ Q)) (e72 : ∀ k, k = 9 ∨ k = 34 ∨ k = 35 → ka_I X 72 k = ka_I h 72 k) (e79 : ∀ q, q < qQ Q → ka_I X 79 q = ka_I h 79 q) (eI : ∀ a, a = 78 ∨ a = 84 ∨ a = 92 ∨ a = 93 ∨ a = 94 → ka_I X a = ka_I h a) : kmq Q X := by
  obtain ⟨m1, m2, m3, m4, m5⟩ := m
  refine ⟨(e72 9 (by omega)).trans m1, (e72 34 (by omega)).trans m2, (e72 35 (by omega)).trans m3, fun q hq => ⟨by rw [eI 78 (by omega)]; exact (m4 q hq).1, (e79 q hq).trans (m4 q hq).2.1, fun k x hx => ⟨?_, by rw [eI 84 (by omega)]; exact ((m4 q hq).2.2 k x hx).2⟩⟩, fun s hs => ?_⟩
  · have hk := kls_lt hx
    have h12 := (wq.2.2.2.2 q hq).1.2
    obtain ⟨⟨-, -, -, -, -, -, -, -, -, l1, l2⟩, -⟩ := (wq.2.2.2.2 q hq).2.1 k x hx
    exact kMn_lo ((m4 q hq).2.2 k x hx).1 (by omega) l1 l2 e
  · rw [eI 93 (by omega), eI 94 (by omega), eI 92 (by omega)]
    exact m5 s hs
/-- the reference's shelves as its search wants them -/
theorem kmq.sB (m : kmq Q h) (wq : kWq c Q) {s : Nat} (hs : s < qN Q) : kSB h s (qKy Q s) (12 * qQ Q) := by
  have w6 := wq.1
  have hN := wq.2.1
  obtain ⟨-, -, q, k, x, hq, hx, hsh, h92⟩ := m.2.2.2.2 s hs
  have hk := kls_lt hx
  have h12 := (wq.2.2.2.2 q hq).1.2
  obtain ⟨n1, n2, n3, n4, n5, n6, n7, n8, n9, n10, n11⟩ := ((wq.2.2.2.2 q hq).2.1 k x hx).1
  rw [Nat.zero_add] at n3 n4
  have hky := ((wq.2.2.2.2 q hq).2.2 k x hx).2
  have h84 : ∀ j, j < k → ka_I h 84 (12 * q + j) = nI (qSh Q q j) ∧ qSh Q q j < 72 := fun j hj => by
    obtain ⟨y, hy⟩ := kls_at (l := qNd Q q) (k := j) (by omega)
    exact ⟨((m.2.2.2.1 q hq).2.2 j y hy).2, by have := ((wq.2.2.2.2 q hq).2.2 j y hy).1; omega⟩
  refine ⟨q, k, x, fun j => if qSh Q q j < 72 then qSh Q q j else 0, by omega, by omega, by omega, h92, ((m.2.2.2.1 q hq).2.2 k x hx).1, ⟨n1, n2, n3, n4, fun cc hc => ?_, n10⟩, fun z => ?_, fun z z' => ?_, fun j => ?_, ?_⟩
  · by_cases z : x.1 = 13
    · exact (n8 z).2 cc hc
    · rw [(n9 z).1] at hc
      cases hc
  · have := h84 _ (n3 z)
    exact this.1.trans (congrArg nI (if_pos this.2).symm)
  · have := h84 _ (n4 z z')
    exact this.1.trans (congrArg nI (if_pos this.2).symm)
  · show (if qSh Q q j < 72 then qSh Q q j else 0) < 72
    split <;> omega
  · rw [← hsh, hky]
    exact kKy_cg (fun z => (if_pos (h84 _ (n3 (by omega))).2).symm) (fun z z' => (if_pos (h84 _ (n4 z z')).2).symm)
/-- a question shelved: the reference's part -/
theorem kmq.qu {Hm H' : ka_H} (m : kmq Q Hm) (wq : kWq c Q) (h6 : qQ Q < 6) (hl : nds.length ≤ 12) (hNl : kNl 0 nds) (h79 : ka_I Hm 79 (qQ Q) = nI nds.length) (hmn : ∀ j x, nds[j]? = some x → kMn (ka_I Hm) (12 * qQ Q + j) x) (q : kSJ g (ka_sI Hm 78 (qQ Q) 0) nds (qQ Q) (qN Q) (qKy Q) (qLv Q) nds.length H') : kmq (qQu Q nds) (ka_sI H' 72 9 (nI (qQ Q + 1))) := by
  have hok := kSv_ok (lv := qLv Q) hNl (fun s hs => (wq.2.2.2.1 s hs).1) nds.length (Nat.le_refl _)
  have hlv := fun s hs => kSv_lv (nds := nds) (s := s) wq hNl (Nat.le_refl _) hs
  obtain ⟨⟨q1, q2, q3, q4, q5, q6, q7, q8, q9, q10, q11⟩, q12⟩ := q
  obtain ⟨m1, m2, m3, m4, m5⟩ := m
  have o78 : ∀ a, a ≠ 78 → ka_I (ka_sI Hm 78 (qQ Q) 0) a = ka_I Hm a := fun a ha => kI_o _ _ _ ha
  have oI : ∀ a, a ≠ 72 → ka_I (ka_sI H' 72 9 (nI (qQ Q + 1))) a = ka_I H' a := fun a ha => kI_o _ _ _ ha
  have fI : ∀ a, 72 < a → a ≠ 78 → a ≠ 84 → a ≠ 92 → a ≠ 93 → a ≠ 94 → ka_I (ka_sI H' 72 9 (nI (qQ Q + 1))) a = ka_I Hm a := fun a a1 a2 a3 a4 a5 a6 => by rw [oI a (by omega), q5 a a1 a3 a4 a5 a6, o78 a a2]
  have fM : ∀ i x, kMn (ka_I Hm) i x → kMn (ka_I (ka_sI H' 72 9 (nI (qQ Q + 1)))) i x := fun i x hx => kMn_eq hx (fun a a1 a2 a3 => fI a (by omega) (by omega) a3 (by omega) (by omega) (by omega))
  have f72 : ∀ k, k ≠ 9 → ka_I (ka_sI H' 72 9 (nI (qQ Q + 1))) 72 k = ka_I H' 72 k := fun k hk => ka_IJ _ _ _ _ hk
  have f78 : ∀ k, ka_I (ka_sI H' 72 9 (nI (qQ Q + 1))) 78 k = if k = qQ Q then 0 else ka_I Hm 78 k := fun k => by
    rw [oI 78 (by decide), q5 78 (by decide) (by decide) (by decide) (by decide) (by decide)]
    by_cases z : k = qQ Q
    · rw [if_pos z, z]; exact ka_IS _ _ _ _
    · rw [if_neg z]; exact ka_IJ _ _ _ _ z
  refine ⟨ka_IS _ _ _ _, (f72 34 (by decide)).trans q3, (f72 35 (by decide)).trans ((q4 35 (by decide)).trans ((congrFun (o78 72 (by decide)) 35).trans m3)), fun q hq => ?_, fun s hs => ⟨fun z => ?_, ?_, ?_⟩⟩
  · have hq' : q < qQ Q + 1 := hq
    show ka_I _ 78 q = bI (if q = qQ Q then false else qLf Q q) ∧ ka_I _ 79 q = nI (if q = qQ Q then nds else qNd Q q).length ∧ ∀ k x, (if q = qQ Q then nds else qNd Q q)[k]? = some x → kMn _ (12 * q + k) x ∧ ka_I _ 84 (12 * q + k) = nI ((if q = qQ Q then (kSv nds (qN Q) (qKy Q) (qLv Q) nds.length).2.2 else qSh Q q) k)
    by_cases z : q = qQ Q
    · subst z
      simp only [if_pos]
      refine ⟨by rw [f78, if_pos rfl]; rfl, by rw [fI 79 (by omega) (by omega) (by omega) (by omega) (by omega) (by omega)]; exact h79, fun k x hx => ⟨fM _ x (hmn k x hx), ?_⟩⟩
      rw [oI 84 (by decide)]
      exact q7 k (kls_lt hx)
    · simp only [if_neg z]
      obtain ⟨u1, u2, u3⟩ := m4 q (by omega)
      refine ⟨by rw [f78, if_neg z]; exact u1, by rw [fI 79 (by omega) (by omega) (by omega) (by omega) (by omega) (by omega)]; exact u2, fun k x hx => ⟨fM _ x (u3 k x hx).1, ?_⟩⟩
      have hk := kls_lt hx
      have h12 := (wq.2.2.2.2 q (by omega)).1.2
      rw [oI 84 (by decide), q6 _ (by omega), o78 84 (by decide)]
      exact (u3 k x hx).2
  · rw [oI 93 (by decide)]
    show _ = nI (if s < qN Q then qFr Q s else qFo Q)
    by_cases u : s < qN Q
    · rw [if_pos u, (q8 s u).2, o78 93 (by decide)]
      refine (m5 s u).1 ?_
      have z' : ((kSv nds (qN Q) (qKy Q) (qLv Q) nds.length).2.1 s).1 ≠ 0 := z
      rw [hok.1 s u] at z'
      exact z'
    · rw [if_neg u, q9 s (by omega) hs, o78 72 (by decide)]
      exact m3
  · rw [oI 94 (by decide), q10 s hs]
    have := hlv s hs
    unfold bI
    by_cases u : (qLv Q s || Nat.ble (qN Q) s) = true
    · rw [if_pos u, if_pos]
      exact decide_eq_true (by rw [qQu_C]; exact this.mpr u)
    · rw [if_neg u, if_neg]
      intro y
      have y' := of_decide_eq_true y
      rw [qQu_C] at y'
      exact u (this.mp y')
  · rw [oI 92 (by decide)]
    by_cases u : s < qN Q
    · obtain ⟨-, -, q, k, x, hq, hx, hsh, h92⟩ := m5 s u
      refine ⟨q, k, x, Nat.lt_succ_of_lt hq, ?_, ?_, ?_⟩
      · show (if q = qQ Q then nds else qNd Q q)[k]? = some x
        rw [if_neg (by omega)]; exact hx
      · show (if q = qQ Q then _ else qSh Q q) k = s
        rw [if_neg (by omega)]; exact hsh
      · rw [(q8 s u).1, o78 92 (by decide)]; exact h92
    · obtain ⟨j, j1, j2, j3⟩ := q12 s (by omega) hs
      obtain ⟨x, hx⟩ := kls_at (l := nds) (k := j) j1
      refine ⟨qQ Q, j, x, Nat.lt_succ_self _, ?_, ?_, j3⟩
      · show (if qQ Q = qQ Q then nds else qNd Q (qQ Q))[j]? = some x
        rw [if_pos rfl]; exact hx
      · show (if qQ Q = qQ Q then (kSv nds (qN Q) (qKy Q) (qLv Q) nds.length).2.2 else qSh Q (qQ Q)) j = s
        rw [if_pos rfl]; exact j2
end QM
