/-! ===== shelves: a step of the reference's shelving ===== -/
theorem kSv_72 {nds : List kN} {N0 : Nat} {ky0 : Nat → kKey} {lv : Nat → Bool} : ∀ i, i ≤ nds.length → N0 + i ≤ 72 → ∀ k, (kSv nds N0 ky0 lv i).2.2 k < 72 := by
  intro i
  induction i with
  | zero => exact fun _ _ k => (by decide : 0 < 72)
  | succ i ih =>
    intro hi h72 k
    have hx : nds[i]? = some nds[i] := List.getElem?_eq_getElem (by omega)
    have hle := kSx_le (nds := nds) (N0 := N0) (ky0 := ky0) (lv := lv) (i := i) (x := nds[i])
    have hN := (kSv_N (nds := nds) (N0 := N0) (ky0 := ky0) (lv := lv) i (by omega)).2.1
    rw [kSv_s hx]
    show (if k = i then kSx nds N0 ky0 lv i nds[i] else (kSv nds N0 ky0 lv i).2.2 k) < 72
    split
    · omega
    · exact ih (by omega) (by omega) k
/-- all but the reference's numbers stands -/
def kFm (h H : ka_H) : Prop := H.1 = h.1 ∧ H.2.1 = h.2.1 ∧ (∀ a, ka_K H a = ka_K h a) ∧ (∀ a, ka_P H a = ka_P h a) ∧ (∀ a, ka_J H a = ka_J h a) ∧ ∀ a, a < 72 ∨ 101 < a → ka_I H a = ka_I h a
theorem kFm.sI {h H : ka_H} (q : kFm h H) {a k : Nat} {v : Int32} (ha : 72 ≤ a ∧ a ≤ 101) : kFm h (ka_sI H a k v) := ⟨q.1, q.2.1, q.2.2.1, q.2.2.2.1, q.2.2.2.2.1, fun a' ha' => (funext fun j => ka_uN _ _ _ _ (by omega) j : ka_I (ka_sI H a k v) a' = ka_I H a').trans (q.2.2.2.2.2 a' ha')⟩
/-- the reference after i of a question's nodes -/
def kSI (g : Nat × (Nat → Int32)) (h : ka_H) (nds : List kN) (Q N0 : Nat) (ky0 : Nat → kKey) (lv : Nat → Bool) (i : Nat) (H : ka_H) : Prop :=
  kf g H ∧ kFm h H ∧ ka_I H 72 34 = nI (kSv nds N0 ky0 lv i).1 ∧ (∀ k, k ≠ 34 → ka_I H 72 k = ka_I h 72 k) ∧ (∀ a, 72 < a → a ≠ 84 → a ≠ 92 → a ≠ 93 → a ≠ 94 → ka_I H a = ka_I h a) ∧ (∀ k, k < 12 * Q → ka_I H 84 k = ka_I h 84 k) ∧ (∀ j, j < i → ka_I H 84 (12 * Q + j) = nI ((kSv nds N0 ky0 lv i).2.2 j)) ∧
  (∀ s, s < N0 → ka_I H 92 s = ka_I h 92 s ∧ ka_I H 93 s = ka_I h 93 s) ∧ (∀ s, N0 ≤ s → s < (kSv nds N0 ky0 lv i).1 → ka_I H 93 s = ka_I h 72 35) ∧ (∀ s, s < (kSv nds N0 ky0 lv i).1 → ka_I H 94 s = if (lv s || Nat.ble N0 s) = true then 1 else 0) ∧ ∀ s, s < (kSv nds N0 ky0 lv i).1 → kSB H s ((kSv nds N0 ky0 lv i).2.1 s) (12 * Q + i)
section SHB
variable {g : Nat × (Nat → Int32)} {d : Nat} {h H : ka_H} {R : ka_R → ka_H → Prop} {nds : List kN} {Q N0 i : Nat} {ky0 : Nat → kKey} {lv : Nat → Bool} {x : kN}
theorem kSI_step (q : kSI g h nds Q N0 ky0 lv i H) (hQ : Q < 6) (hl : nds.length ≤ 12) (hN0 : N0 ≤ 12 * Q) (hx : nds[i]? = some x) (hm : kMn (ka_I h) (12 * Q + i) x) (hv : kNv x i) (e : ∀ H', kSI g h nds Q N0 ky0 lv (i + 1) H' → R (.inl none) H') : kp_T (d + 3) 185 [.ref 72, .int (nI Q), .int (nI i)] H R := by
  obtain ⟨q1, q2, q3, q4, q5, q6, q7, q8, q9, q10, q11⟩ := q
  have hi := kls_lt hx
  have hN := kSv_N (nds := nds) (N0 := N0) (ky0 := ky0) (lv := lv) i (by omega)
  have h72 := kSv_72 (nds := nds) (N0 := N0) (ky0 := ky0) (lv := lv) i (by omega) (by omega)
  have hs := kSv_s (N0 := N0) (ky0 := ky0) (lv := lv) hx
  have hmH : kMn (ka_I H) (12 * Q + i) x := kMn_eq hm (fun a a1 a2 a3 => q5 a (by omega) a3 (by omega) (by omega) (by omega))
  refine kc_shelve (f := (kSv nds N0 ky0 lv i).2.2) (ky := (kSv nds N0 ky0 lv i).2.1) (lv := fun s => lv s || Nat.ble N0 s) q1 hQ (by omega) q3 (by omega) hmH (hv.le (by omega)) (fun z => q7 _ (hv.2.2.1 z)) (fun z z' => q7 _ (hv.2.2.2.1 z z')) h72 (fun s hs => (q11 s hs).m) q10 (fun s hsN hlv hky hno => ?_) (fun hno => ?_)
  · have hsx := kSx_in hsN hlv hky hno
    rw [hsx, if_pos hsN] at hs
    refine e _ ?_
    unfold kSI
    rw [hs]
    have o84 : ∀ a, a ≠ 84 → ka_I (ka_sI H 84 (12 * Q + i) (nI s)) a = ka_I H a := fun a ha => funext fun j => ka_uN _ _ _ _ ha j
    have n84 : ∀ k, k ≠ 12 * Q + i → ka_I (ka_sI H 84 (12 * Q + i) (nI s)) 84 k = ka_I H 84 k := fun k hk => ka_uJ (ka_I H) 84 (12 * Q + i) (nI s) 84 hk
    refine ⟨kf_w q1 84 rfl rfl, q2.sI (by omega), ?_, fun k hk => ?_, fun a a1 a2 a3 a4 a5 => ?_, fun k hk => ?_, fun j hj => ?_, fun t ht => ?_, fun t t1 t2 => ?_, fun t ht => ?_, fun t ht => ?_⟩
    · rw [o84 72 (by decide)]; exact q3
    · rw [o84 72 (by decide)]; exact q4 k hk
    · rw [o84 a a2]; exact q5 a a1 a2 a3 a4 a5
    · rw [n84 k (by omega)]; exact q6 k hk
    · show _ = nI (if j = i then s else (kSv nds N0 ky0 lv i).2.2 j)
      by_cases c : j = i
      · rw [if_pos c, c]; exact ka_uS (ka_I H) 84 (12 * Q + i) (nI s)
      · rw [if_neg c, n84 _ (by omega)]; exact q7 j (by omega)
    · rw [o84 92 (by decide), o84 93 (by decide)]; exact q8 t ht
    · rw [o84 93 (by decide)]; exact q9 t t1 t2
    · rw [o84 94 (by decide)]; exact q10 t ht
    · show kSB _ t (if t = (kSv nds N0 ky0 lv i).1 then _ else (kSv nds N0 ky0 lv i).2.1 t) _
      have ht' : t < (kSv nds N0 ky0 lv i).1 := ht
      rw [if_neg (by omega)]
      exact (q11 t ht').st (fun a a1 a2 a3 => o84 a a3) (fun k hk => n84 k (by omega)) (by rw [o84 92 (by decide)]) (by omega)
  · have hsx := kSx_no hno
    rw [hsx, if_neg (by omega)] at hs
    refine e _ ?_
    generalize hNe : (kSv nds N0 ky0 lv i).1 = N at q3 q9 q10 q11 hN hs
    have hNs : (kSv nds N0 ky0 lv (i + 1)).1 = N + 1 := by rw [hs]
    unfold kSI
    rw [hs]
    have hf' : kf g (kSh H (12 * Q + i) N) := kf_w (kf_w (kf_w (kf_w (kf_w q1 84 rfl rfl) 92 rfl rfl) 93 rfl rfl) 94 rfl rfl) 72 rfl rfl
    have oth : ∀ a, a ≠ 72 → a ≠ 84 → a ≠ 92 → a ≠ 93 → a ≠ 94 → ka_I (kSh H (12 * Q + i) N) a = ka_I H a := fun a a1 a2 a3 a4 a5 => funext fun j => (ka_uN _ _ _ _ a1 j).trans ((ka_uN _ _ _ _ a5 j).trans ((ka_uN _ _ _ _ a4 j).trans ((ka_uN _ _ _ _ a3 j).trans (ka_uN _ _ _ _ a2 j))))
    have o72 : ∀ k, k ≠ 34 → ka_I (kSh H (12 * Q + i) N) 72 k = ka_I H 72 k := by
      intro k hk
      show (if k = 34 then nI (N + 1) else ka_I H 72 k) = _
      exact if_neg hk
    have o84 : ∀ k, k ≠ 12 * Q + i → ka_I (kSh H (12 * Q + i) N) 84 k = ka_I H 84 k := by
      intro k hk
      show (if k = 12 * Q + i then nI N else ka_I H 84 k) = _
      exact if_neg hk
    have n84 : ka_I (kSh H (12 * Q + i) N) 84 (12 * Q + i) = nI N := by
      show (if 12 * Q + i = 12 * Q + i then nI N else ka_I H 84 (12 * Q + i)) = _
      exact if_pos rfl
    have o92 : ∀ k, k ≠ N → ka_I (kSh H (12 * Q + i) N) 92 k = ka_I H 92 k := by
      intro k hk
      show (if k = N then nI (12 * Q + i) else ka_I H 92 k) = _
      exact if_neg hk
    have n92 : ka_I (kSh H (12 * Q + i) N) 92 (N) = nI (12 * Q + i) := by
      show (if N = N then nI (12 * Q + i) else ka_I H 92 (N)) = _
      exact if_pos rfl
    have o93 : ∀ k, k ≠ N → ka_I (kSh H (12 * Q + i) N) 93 k = ka_I H 93 k := by
      intro k hk
      show (if k = N then ka_I H 72 35 else ka_I H 93 k) = _
      exact if_neg hk
    have n93 : ka_I (kSh H (12 * Q + i) N) 93 (N) = ka_I H 72 35 := by
      show (if N = N then ka_I H 72 35 else ka_I H 93 (N)) = _
      exact if_pos rfl
    have o94 : ∀ k, k ≠ N → ka_I (kSh H (12 * Q + i) N) 94 k = ka_I H 94 k := by
      intro k hk
      show (if k = N then 1 else ka_I H 94 k) = _
      exact if_neg hk
    have n94 : ka_I (kSh H (12 * Q + i) N) 94 (N) = 1 := by
      show (if N = N then 1 else ka_I H 94 (N)) = _
      exact if_pos rfl
    have n34 : ka_I (kSh H (12 * Q + i) N) 72 34 = nI (N + 1) := by
      show nI (N + 1) = _
      rfl
    have hfm : kFm h (kSh H (12 * Q + i) N) := ((((q2.sI (by omega)).sI (by omega)).sI (by omega)).sI (by omega)).sI (by omega)
    refine ⟨hf', hfm, n34, fun k hk => (o72 k hk).trans (q4 k hk), fun a a1 a2 a3 a4 a5 => (oth a (by omega) a2 a3 a4 a5).trans (q5 a a1 a2 a3 a4 a5), fun k hk => (o84 k (by omega)).trans (q6 k hk), fun j hj => ?_, fun t ht => ?_, fun t t1 t2 => ?_, fun t ht => ?_, fun t ht => ?_⟩
    · show _ = nI (if j = i then N else (kSv nds N0 ky0 lv i).2.2 j)
      by_cases c : j = i
      · rw [if_pos c, c]; exact n84
      · rw [if_neg c, o84 _ (by omega)]; exact q7 j (by omega)
    · rw [o92 t (by omega), o93 t (by omega)]; exact q8 t ht
    · have t2' : t < N + 1 := t2
      by_cases c : t = N
      · rw [c, n93]; exact q4 35 (by decide)
      · rw [o93 t c]; exact q9 t t1 (by omega)
    · have t2' : t < N + 1 := ht
      by_cases c : t = N
      · rw [c, n94, show (lv N || Nat.ble N0 N) = true by rw [Nat.ble_eq_true_of_le hN.1, Bool.or_true], if_pos rfl]
      · rw [o94 t c]; exact q10 t (by omega)
    · have t2' : t < N + 1 := ht
      show kSB _ t (if t = N then kKy x (kSv nds N0 ky0 lv i).2.2 else (kSv nds N0 ky0 lv i).2.1 t) _
      by_cases c : t = N
      · rw [if_pos c, c]
        refine ⟨Q, i, x, (kSv nds N0 ky0 lv i).2.2, hQ, by omega, by omega, n92, kMn_eq hmH (fun a a1 a2 a3 => oth a (by omega) a3 (by omega) (by omega) (by omega)), hv, fun z => ?_, fun z z' => ?_, h72, rfl⟩
        · have := hv.2.2.1 z
          rw [o84 _ (by omega)]; exact q7 _ this
        · have := hv.2.2.2.1 z z'
          rw [o84 _ (by omega)]; exact q7 _ this
      · rw [if_neg c]
        exact (q11 t (by omega)).st (fun a a1 a2 a3 => oth a (by omega) a3 (by omega) (by omega) (by omega)) (fun k hk => o84 k (by omega)) (o92 t c) (by omega)
end SHB
