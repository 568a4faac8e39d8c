/-! ===== shelving by the reference once more, with each new shelf's node ===== -/
def kSJ (g : Nat × (Nat → Int32)) (h : ka_H) (nds : List kN) (Q N0 : Nat) (ky0 : Nat → kKey) (lv : Nat → Bool) (i : Nat) (H : ka_H) : Prop := kSI g h nds Q N0 ky0 lv i H ∧ ∀ s, N0 ≤ s → s < (kSv nds N0 ky0 lv i).1 → ∃ j, j < i ∧ (kSv nds N0 ky0 lv i).2.2 j = s ∧ ka_I H 92 s = nI (12 * Q + j)
section SJB
variable {g : Nat × (Nat → Int32)} {d : Nat} {h H : ka_H} {R : ka_R → ka_H → Prop} {nds : List kN} {Q N0 i : Nat} {ky0 : Nat → kKey} {lv : Nat → Bool} {x : kN}
theorem kSJ_step (q : kSJ g h nds Q N0 ky0 lv i H) (hQ : Q < 6) (hl : nds.length ≤ 12) (hN0 : N0 ≤ 12 * Q) (hx : nds[i]? = some x) (hm : kMn (ka_I h) (12 * Q + i) x) (hv : kNv x i) (e : ∀ H', kSJ g h nds Q N0 ky0 lv (i + 1) H' → R (.inl none) H') : kp_T (d + 3) 185 [.ref 72, .int (nI Q), .int (nI i)] H R := by
  obtain ⟨⟨q1, q2, q3, q4, q5, q6, q7, q8, q9, q10, q11⟩, q12⟩ := q
  have hi := kls_lt hx
  have hN := kSv_N (nds := nds) (N0 := N0) (ky0 := ky0) (lv := lv) i (by omega)
  have h72 := kSv_72 (nds := nds) (N0 := N0) (ky0 := ky0) (lv := lv) i (by omega) (by omega)
  have hs := kSv_s (N0 := N0) (ky0 := ky0) (lv := lv) hx
  have hmH : kMn (ka_I H) (12 * Q + i) x := kMn_eq hm (fun a a1 a2 a3 => q5 a (by omega) a3 (by omega) (by omega) (by omega))
  refine kc_shelve (f := (kSv nds N0 ky0 lv i).2.2) (ky := (kSv nds N0 ky0 lv i).2.1) (lv := fun s => lv s || Nat.ble N0 s) q1 hQ (by omega) q3 (by omega) hmH (hv.le (by omega)) (fun z => q7 _ (hv.2.2.1 z)) (fun z z' => q7 _ (hv.2.2.2.1 z z')) h72 (fun s hs => (q11 s hs).m) q10 (fun s hsN hlv hky hno => ?_) (fun hno => ?_)
  · have hsx := kSx_in hsN hlv hky hno
    rw [hsx, if_pos hsN] at hs
    have ex1 : ∀ t, N0 ≤ t → t < (kSv nds N0 ky0 lv (i + 1)).1 → ∃ j, j < i + 1 ∧ (kSv nds N0 ky0 lv (i + 1)).2.2 j = t ∧ ka_I (ka_sI H 84 (12 * Q + i) (nI s)) 92 t = nI (12 * Q + j) := fun t t1 t2 => by
      rw [hs] at t2 ⊢
      obtain ⟨j, j1, j2, j3⟩ := q12 t t1 t2
      exact ⟨j, by omega, (if_neg (by omega)).trans j2, (congrFun (kI_o H _ _ (by decide)) t).trans j3⟩
    suffices key : kSI g h nds Q N0 ky0 lv (i + 1) (ka_sI H 84 (12 * Q + i) (nI s)) from e _ ⟨key, ex1⟩
    unfold kSI
    rw [hs]
    have o84 : ∀ a, a ≠ 84 → ka_I (ka_sI H 84 (12 * Q + i) (nI s)) a = ka_I H a := fun a ha => funext fun j => ka_uN _ _ _ _ ha j
    have n84 : ∀ k, k ≠ 12 * Q + i → ka_I (ka_sI H 84 (12 * Q + i) (nI s)) 84 k = ka_I H 84 k := fun k hk => ka_uJ (ka_I H) 84 (12 * Q + i) (nI s) 84 hk
    refine ⟨kf_w q1 84 rfl rfl, q2.sI (by omega), ?_, fun k hk => ?_, fun a a1 a2 a3 a4 a5 => ?_, fun k hk => ?_, fun j hj => ?_, fun t ht => ?_, fun t t1 t2 => ?_, fun t ht => ?_, fun t ht => ?_⟩
    · rw [o84 72 (by decide)]; exact q3
    · rw [o84 72 (by decide)]; exact q4 k hk
    · rw [o84 a a2]; exact q5 a a1 a2 a3 a4 a5
    · rw [n84 k (by omega)]; exact q6 k hk
    · show _ = nI (if j = i then s else (kSv nds N0 ky0 lv i).2.2 j)
      by_cases c : j = i
      · rw [if_pos c, c]; exact ka_uS (ka_I H) 84 (12 * Q + i) (nI s)
      · rw [if_neg c, n84 _ (by omega)]; exact q7 j (by omega)
    · rw [o84 92 (by decide), o84 93 (by decide)]; exact q8 t ht
    · rw [o84 93 (by decide)]; exact q9 t t1 t2
    · rw [o84 94 (by decide)]; exact q10 t ht
    · show kSB _ t (if t = (kSv nds N0 ky0 lv i).1 then _ else (kSv nds N0 ky0 lv i).2.1 t) _
      have ht' : t < (kSv nds N0 ky0 lv i).1 := ht
      rw [if_neg (by omega)]
      exact (q11 t ht').st (fun a a1 a2 a3 => o84 a a3) (fun k hk => n84 k (by omega)) (by rw [o84 92 (by decide)]) (by omega)
  · have hsx := kSx_no hno
    rw [hsx, if_neg (by omega)] at hs
    have ex2 : ∀ t, N0 ≤ t → t < (kSv nds N0 ky0 lv (i + 1)).1 → ∃ j, j < i + 1 ∧ (kSv nds N0 ky0 lv (i + 1)).2.2 j = t ∧ ka_I (kSh H (12 * Q + i) (kSv nds N0 ky0 lv i).1) 92 t = nI (12 * Q + j) := fun t t1 t2 => by
      rw [hs] at t2 ⊢
      have t2' : t < (kSv nds N0 ky0 lv i).1 + 1 := t2
      by_cases c : t = (kSv nds N0 ky0 lv i).1
      · refine ⟨i, by omega, (if_pos rfl).trans c.symm, ?_⟩
        show (if t = (kSv nds N0 ky0 lv i).1 then nI (12 * Q + i) else ka_I H 92 t) = _
        rw [if_pos c]
      · obtain ⟨j, j1, j2, j3⟩ := q12 t t1 (by omega)
        refine ⟨j, by omega, (if_neg (by omega)).trans j2, ?_⟩
        show (if t = (kSv nds N0 ky0 lv i).1 then nI (12 * Q + i) else ka_I H 92 t) = _
        rw [if_neg c]
        exact j3
    suffices key : kSI g h nds Q N0 ky0 lv (i + 1) (kSh H (12 * Q + i) (kSv nds N0 ky0 lv i).1) from e _ ⟨key, ex2⟩
    generalize hNe : (kSv nds N0 ky0 lv i).1 = N at q3 q9 q10 q11 hN hs
    have hNs : (kSv nds N0 ky0 lv (i + 1)).1 = N + 1 := by rw [hs]
    unfold kSI
    rw [hs]
    have hf' : kf g (kSh H (12 * Q + i) N) := kf_w (kf_w (kf_w (kf_w (kf_w q1 84 rfl rfl) 92 rfl rfl) 93 rfl rfl) 94 rfl rfl) 72 rfl rfl
    have oth : ∀ a, a ≠ 72 → a ≠ 84 → a ≠ 92 → a ≠ 93 → a ≠ 94 → ka_I (kSh H (12 * Q + i) N) a = ka_I H a := fun a a1 a2 a3 a4 a5 => funext fun j => (ka_uN _ _ _ _ a1 j).trans ((ka_uN _ _ _ _ a5 j).trans ((ka_uN _ _ _ _ a4 j).trans ((ka_uN _ _ _ _ a3 j).trans (ka_uN _ _ _ _ a2 j))))
    have o72 : ∀ k, k ≠ 34 → ka_I (kSh H (12 * Q + i) N) 72 k = ka_I H 72 k := by
      intro k hk
      show (if k = 34 then nI (N + 1) else ka_I H 72 k) = _
      exact if_neg hk
    have o84 : ∀ k, k ≠ 12 * Q + i → ka_I (kSh H (12 * Q + i) N) 84 k = ka_I H 84 k := by
      intro k hk
      show (if k = 12 * Q + i then nI N else ka_I H 84 k) = _
      exact if_neg hk
    have n84 : ka_I (kSh H (12 * Q + i) N) 84 (12 * Q + i) = nI N := by
      show (if 12 * Q + i = 12 * Q + i then nI N else ka_I H 84 (12 * Q + i)) = _
      exact if_pos rfl
    have o92 : ∀ k, k ≠ N → ka_I (kSh H (12 * Q + i) N) 92 k = ka_I H 92 k := by
      intro k hk
      show (if k = N then nI (12 * Q + i) else ka_I H 92 k) = _
      exact if_neg hk
    have n92 : ka_I (kSh H (12 * Q + i) N) 92 (N) = nI (12 * Q + i) := by
      show (if N = N then nI (12 * Q + i) else ka_I H 92 (N)) = _
      exact if_pos rfl
    have o93 : ∀ k, k ≠ N → ka_I (kSh H (12 * Q + i) N) 93 k = ka_I H 93 k := by
      intro k hk
      show (if k = N then ka_I H 72 35 else ka_I H 93 k) = _
      exact if_neg hk
    have n93 : ka_I (kSh H (12 * Q + i) N) 93 (N) = ka_I H 72 35 := by
      show (if N = N then ka_I H 72 35 else ka_I H 93 (N)) = _
      exact if_pos rfl
    have o94 : ∀ k, k ≠ N → ka_I (kSh H (12 * Q + i) N) 94 k = ka_I H 94 k := by
      intro k hk
      show (if k = N then 1 else ka_I H 94 k) = _
      exact if_neg hk
    have n94 : ka_I (kSh H (12 * Q + i) N) 94 (N) = 1 := by
      show (if N = N then 1 else ka_I H 94 (N)) = _
      exact if_pos rfl
    have n34 : ka_I (kSh H (12 * Q + i) N) 72 34 = nI (N + 1) := by
      show nI (N + 1) = _
      rfl
    have hfm : kFm h (kSh H (12 * Q + i) N) := ((((q2.sI (by omega)).sI (by omega)).sI (by omega)).sI (by omega)).sI (by omega)
    refine ⟨hf', hfm, n34, fun k hk => (o72 k hk).trans (q4 k hk), fun a a1 a2 a3 a4 a5 => (oth a (by omega) a2 a3 a4 a5).trans (q5 a a1 a2 a3 a4 a5), fun k hk => (o84 k (by omega)).trans (q6 k hk), fun j hj => ?_, fun t ht => ?_, fun t t1 t2 => ?_, fun t ht => ?_, fun t ht => ?_⟩
    · show _ = nI (if j = i then N else (kSv nds N0 ky0 lv i).2.2 j)
      by_cases c : j = i
      · rw [if_pos c, c]; exact n84
      · rw [if_neg c, o84 _ (by omega)]; exact q7 j (by omega)
    · rw [o92 t (by omega), o93 t (by omega)]; exact q8 t ht
    · have t2' : t < N + 1 := t2
      by_cases c : t = N
      · rw [c, n93]; exact q4 35 (by decide)
      · rw [o93 t c]; exact q9 t t1 (by omega)
    · have t2' : t < N + 1 := ht
      by_cases c : t = N
      · rw [c, n94, show (lv N || Nat.ble N0 N) = true by rw [Nat.ble_eq_true_of_le hN.1, Bool.or_true], if_pos rfl]
      · rw [o94 t c]; exact q10 t (by omega)
    · have t2' : t < N + 1 := ht
      show kSB _ t (if t = N then kKy x (kSv nds N0 ky0 lv i).2.2 else (kSv nds N0 ky0 lv i).2.1 t) _
      by_cases c : t = N
      · rw [if_pos c, c]
        refine ⟨Q, i, x, (kSv nds N0 ky0 lv i).2.2, hQ, by omega, by omega, n92, kMn_eq hmH (fun a a1 a2 a3 => oth a (by omega) a3 (by omega) (by omega) (by omega)), hv, fun z => ?_, fun z z' => ?_, h72, rfl⟩
        · have := hv.2.2.1 z
          rw [o84 _ (by omega)]; exact q7 _ this
        · have := hv.2.2.2.1 z z'
          rw [o84 _ (by omega)]; exact q7 _ this
      · rw [if_neg c]
        exact (q11 t (by omega)).st (fun a a1 a2 a3 => oth a (by omega) a3 (by omega) (by omega) (by omega)) (fun k hk => o84 k (by omega)) (o92 t c) (by omega)
end SJB
section SJC
variable {g : Nat × (Nat → Int32)} {d : Nat} {h H : ka_H} {R : ka_R → ka_H → Prop} {nds : List kN} {Q N0 i : Nat} {ky0 : Nat → kKey} {lv : Nat → Bool}
theorem kSJ_step' {x : kN} {v : Int32} (hv9 : v = nI Q) (q : kSJ g h nds Q N0 ky0 lv i H) (hQ : Q < 6) (hl : nds.length ≤ 12) (hN0 : N0 ≤ 12 * Q) (hx : nds[i]? = some x) (hm : kMn (ka_I h) (12 * Q + i) x) (hv : kNv x i) (e : ∀ H', kSJ g h nds Q N0 ky0 lv (i + 1) H' → R (.inl none) H') : kp_T (d + 3) 185 [.ref 72, .int v, .int (nI i)] H R := by
  rw [hv9]
  exact kSJ_step q hQ hl hN0 hx hm hv e
theorem kSJ_all (hQ : Q < 6) (hl : nds.length ≤ 12) (hN0 : N0 ≤ 12 * Q) (h9 : ka_I h 72 9 = nI Q) (h79 : ka_I h 79 Q = nI nds.length) (hm : ∀ j x, nds[j]? = some x → kMn (ka_I h) (12 * Q + j) x ∧ kNv x j) {nn xx : Int32} (e : ∀ H', kSJ g h nds Q N0 ky0 lv nds.length H' → R (kp_ri (nI Q)) (ka_sI H' 72 9 (nI (Q + 1)))) : ∀ m i H, i + m = nds.length → kSJ g h nds Q N0 ky0 lv i H → kq_ex g (d + 3) 183 R 177 [.ref 72, .int nn, .int xx, .int (nI i)] [] H := by
  intro m
  induction m with
  | zero =>
    intro i H hi q
    have hin : i = nds.length := by omega
    have r9 : ka_I H 72 9 = nI Q := (q.1.2.2.2.1 9 (by decide)).trans h9
    have r79 : ka_I H 79 Q = nI nds.length := (congrFun (q.1.2.2.2.2.1 79 (by decide) (by decide) (by decide) (by decide) (by decide)) Q).trans h79
    refine kq_seg (fun p => Nat.beq p 177) 40 ⟨by rw [r9]; exact nI_in (N := 6) hQ (by omega), ?_⟩
    rw [r9, nI_clamp (by omega), show ka_I H (kq_p H 72 11) Q = nI nds.length from r79]
    refine ⟨fun _ => ?_, fun c => absurd c (nI_nlt (by omega) (by omega))⟩
    have ew : ka_sI H 72 9 (ka_I H 72 9 + 1) = ka_sI H 72 9 (nI (Q + 1)) := by rw [r9, ← nI_succ]
    have hfin := e H (by rw [← hin]; exact q)
    rw [← ew] at hfin
    have ev : ka_I H 72 9 + 1 - 1 = nI Q := by rw [r9, ← nI_succ]; exact nI_m1 (n := Q + 1) (by omega)
    rw [← ev] at hfin
    exact ⟨trivial, hfin⟩
  | succ m ih =>
    intro i H hi q
    have r9 : ka_I H 72 9 = nI Q := (q.1.2.2.2.1 9 (by decide)).trans h9
    have r79 : ka_I H 79 Q = nI nds.length := (congrFun (q.1.2.2.2.2.1 79 (by decide) (by decide) (by decide) (by decide) (by decide)) Q).trans h79
    refine kq_seg (fun p => Nat.beq p 177) 40 ⟨by rw [r9]; exact nI_in (N := 6) hQ (by omega), ?_⟩
    rw [r9, nI_clamp (by omega), show ka_I H (kq_p H 72 11) Q = nI nds.length from r79]
    refine ⟨fun c => absurd (nI_lt (by omega) (by omega)) c, fun _ => ?_⟩
    have hx : nds[i]? = some nds[i] := List.getElem?_eq_getElem (by omega)
    refine kSJ_step' r9 q hQ hl hN0 hx (hm i _ hx).1 (hm i _ hx).2 (fun H' q' => ⟨q'.1.1, ?_⟩)
    have := ih (i + 1) H' (by omega) q'
    rw [nI_succ] at this
    exact this
end SJC
section SJD
variable {g : Nat × (Nat → Int32)} {d : Nat} {h : ka_H} {R : ka_R → ka_H → Prop} {nds : List kN} {Q N0 : Nat} {ky0 : Nat → kKey} {lv : Nat → Bool}
theorem kSJ_go (hf : kf g h) (hQ : Q < 6) (hl : nds.length ≤ 12) (hN0 : N0 ≤ 12 * Q) (h9 : ka_I h 72 9 = nI Q) (h79 : ka_I h 79 Q = nI nds.length) (h34 : ka_I h 72 34 = nI N0) (h94 : ∀ s, s < N0 → ka_I h 94 s = if lv s = true then 1 else 0) (hB : ∀ s, s < N0 → kSB h s (ky0 s) (12 * Q)) (hm : ∀ j x, nds[j]? = some x → kMn (ka_I h) (12 * Q + j) x ∧ kNv x j) {nn xx : Int32}
    (e : ∀ H', kSJ g (ka_sI h 78 Q 0) nds Q N0 ky0 lv nds.length H' → R (kp_ri (nI Q)) (ka_sI H' 72 9 (nI (Q + 1)))) : kq_ex g (d + 3) 183 R 165 [.ref 72, .int nn, .int xx, .retAddr 0] [] h := by
  have o78 : ∀ a, a ≠ 78 → ka_I (ka_sI h 78 Q 0) a = ka_I h a := fun a ha => funext fun j => ka_uN _ _ _ _ ha j
  have f1 : kf g (ka_sI h 78 Q 0) := kf_w hf 78 rfl rfl
  have q0 : kSJ g (ka_sI h 78 Q 0) nds Q N0 ky0 lv 0 (ka_sI h 78 Q 0) := And.intro (kSI_0 f1 h34 (fun s hs => (congrFun (o78 94 (by decide)) s).trans (h94 s hs)) (fun s hs => (hB s hs).st (fun a a1 a2 a3 => o78 a (by omega)) (fun k _ => congrFun (o78 84 (by decide)) k) (congrFun (o78 92 (by decide)) s) (Nat.le_refl _))) (fun s s1 s2 => absurd (Nat.lt_of_le_of_lt s1 s2) (Nat.lt_irrefl _))
  have hall := kSJ_all (d := d) (nn := nn) (xx := xx) hQ hl hN0 (h := ka_sI h 78 Q 0) h9 ((congrFun (o78 79 (by decide)) Q).trans h79) (fun j x hx => ⟨kMn_eq (hm j x hx).1 (fun a a1 a2 a3 => o78 a (by omega)), (hm j x hx).2⟩) e nds.length 0 _ (Nat.zero_add _) q0
  refine kq_seg (fun p => Nat.beq p 177) 20 ⟨⟨by rw [h9]; exact nI_in (N := 6) hQ (by omega), Or.inl rfl⟩, ?_⟩
  rw [h9, nI_clamp (by omega)]
  exact hall
end SJD
