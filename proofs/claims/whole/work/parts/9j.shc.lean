/-! ===== shelves: the reference shelves all nodes of a question ===== -/
section SHC
variable {g : Nat × (Nat → Int32)} {d : Nat} {h H : ka_H} {R : ka_R → ka_H → Prop} {nds : List kN} {Q N0 i : Nat} {ky0 : Nat → kKey} {lv : Nat → Bool}
theorem kSI_step' {x : kN} {v : Int32} (hv9 : v = nI Q) (q : kSI g h nds Q N0 ky0 lv i H) (hQ : Q < 6) (hl : nds.length ≤ 12) (hN0 : N0 ≤ 12 * Q) (hx : nds[i]? = some x) (hm : kMn (ka_I h) (12 * Q + i) x) (hv : kNv x i) (e : ∀ H', kSI g h nds Q N0 ky0 lv (i + 1) H' → R (.inl none) H') : kp_T (d + 3) 185 [.ref 72, .int v, .int (nI i)] H R := by
  rw [hv9]
  exact kSI_step q hQ hl hN0 hx hm hv e
theorem kSI_all (hQ : Q < 6) (hl : nds.length ≤ 12) (hN0 : N0 ≤ 12 * Q) (h9 : ka_I h 72 9 = nI Q) (h79 : ka_I h 79 Q = nI nds.length) (hm : ∀ j x, nds[j]? = some x → kMn (ka_I h) (12 * Q + j) x ∧ kNv x j) {nn xx : Int32} (e : ∀ H', kSI g h nds Q N0 ky0 lv nds.length H' → R (kp_ri (nI Q)) (ka_sI H' 72 9 (nI (Q + 1)))) : ∀ m i H, i + m = nds.length → kSI g h nds Q N0 ky0 lv i H → kq_ex g (d + 3) 183 R 177 [.ref 72, .int nn, .int xx, .int (nI i)] [] H := by
  intro m
  induction m with
  | zero =>
    intro i H hi q
    have hin : i = nds.length := by omega
    have r9 : ka_I H 72 9 = nI Q := (q.2.2.2.1 9 (by decide)).trans h9
    have r79 : ka_I H 79 Q = nI nds.length := (congrFun (q.2.2.2.2.1 79 (by decide) (by decide) (by decide) (by decide) (by decide)) Q).trans h79
    refine kq_seg (fun p => Nat.beq p 177) 40 ⟨by rw [r9]; exact nI_in (N := 6) hQ (by omega), ?_⟩
    rw [r9, nI_clamp (by omega), show ka_I H (kq_p H 72 11) Q = nI nds.length from r79]
    refine ⟨fun _ => ?_, fun c => absurd c (nI_nlt (by omega) (by omega))⟩
    have ew : ka_sI H 72 9 (ka_I H 72 9 + 1) = ka_sI H 72 9 (nI (Q + 1)) := by rw [r9, ← nI_succ]
    have hfin := e H (by rw [← hin]; exact q)
    rw [← ew] at hfin
    have ev : ka_I H 72 9 + 1 - 1 = nI Q := by rw [r9, ← nI_succ]; exact nI_m1 (n := Q + 1) (by omega)
    rw [← ev] at hfin
    exact ⟨trivial, hfin⟩
  | succ m ih =>
    intro i H hi q
    have r9 : ka_I H 72 9 = nI Q := (q.2.2.2.1 9 (by decide)).trans h9
    have r79 : ka_I H 79 Q = nI nds.length := (congrFun (q.2.2.2.2.1 79 (by decide) (by decide) (by decide) (by decide) (by decide)) Q).trans h79
    refine kq_seg (fun p => Nat.beq p 177) 40 ⟨by rw [r9]; exact nI_in (N := 6) hQ (by omega), ?_⟩
    rw [r9, nI_clamp (by omega), show ka_I H (kq_p H 72 11) Q = nI nds.length from r79]
    refine ⟨fun c => absurd (nI_lt (by omega) (by omega)) c, fun _ => ?_⟩
    have hx : nds[i]? = some nds[i] := List.getElem?_eq_getElem (by omega)
    refine kSI_step' r9 q hQ hl hN0 hx (hm i _ hx).1 (hm i _ hx).2 (fun H' q' => ⟨q'.1, ?_⟩)
    have := ih (i + 1) H' (by omega) q'
    rw [nI_succ] at this
    exact this
end SHC
