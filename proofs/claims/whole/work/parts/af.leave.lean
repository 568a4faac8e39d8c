/-! ===== leave ===== -/
theorem kNum_cg {p p' : Nat → Bool} : ∀ n, (∀ k, k < n → p k = p' k) → kNum p n = kNum p' n
  | 0, _ => rfl
  | n + 1, h => by
    show kNum p n + _ = kNum p' n + _
    rw [kNum_cg n (fun k hk => h k (by omega)), h n (by omega)]
/-- two counts that differ at one place -/
theorem kNum_pt {p p' : Nat → Bool} {t : Nat} (ho : ∀ k, k ≠ t → p' k = p k) : ∀ n, t < n → kNum p' n + (if p t = true then 1 else 0) = kNum p n + (if p' t = true then 1 else 0)
  | 0, h => absurd h (Nat.not_lt_zero _)
  | n + 1, h => by
    show kNum p' n + _ + _ = kNum p n + _ + _
    by_cases c : t = n
    · rw [← c, kNum_cg (p := p') (p' := p) t (fun k hk => ho k (by omega))]
      omega
    · have := kNum_pt ho n (by omega)
      rw [ho n (fun z => c z.symm)]
      omega
theorem kNum_le (p : Nat → Bool) : ∀ n, kNum p n ≤ n
  | 0 => Nat.le_refl _
  | n + 1 => by
    have := kNum_le p n
    show kNum p n + (if p n = true then 1 else 0) ≤ n + 1
    split <;> omega
theorem kNum_0 {p : Nat → Bool} : ∀ n, kNum p n = 0 ↔ ∀ k, k < n → p k = false
  | 0 => ⟨fun _ k hk => absurd hk (Nat.not_lt_zero k), fun _ => rfl⟩
  | n + 1 => by
    have ih := kNum_0 (p := p) n
    show kNum p n + (if p n = true then 1 else 0) = 0 ↔ _
    constructor
    · intro h k hk
      by_cases c : k = n
      · rw [c]
        cases hp : p n with
        | false => rfl
        | true => rw [if_pos hp] at h; omega
      · exact ih.mp (by omega) k (by omega)
    · intro h
      rw [ih.mpr (fun k hk => h k (by omega)), h n (by omega)]
      rfl
/-- the places that stand in a list of places, each counted once -/
theorem kNum_rp {sp : Nat → Nat} {p : Nat → Bool} {N : Nat} : ∀ m, (∀ k, k < m → sp k < N) → kNum (fun s => kRp sp s m && p s) N = kNum (fun k => !kRp sp (sp k) k && p (sp k)) m
  | 0, _ => (kNum_0 N).mpr (fun _ _ => rfl)
  | m + 1, h => by
    have ih := kNum_rp (p := p) m (fun k hk => h k (by omega))
    have hp := kNum_pt (p := fun s => kRp sp s m && p s) (p' := fun s => kRp sp s (m + 1) && p s) (t := sp m) (fun k hk => by
      show ((kRp sp k m || decide (sp m = k)) && p k) = _
      rw [decide_eq_false (fun z => hk z.symm), Bool.or_false]) N (h m (by omega))
    show _ = kNum _ m + (if (!kRp sp (sp m) m && p (sp m)) = true then 1 else 0)
    rw [← ih]
    have h1 : (kRp sp (sp m) (m + 1) && p (sp m)) = p (sp m) := by
      show ((kRp sp (sp m) m || decide (sp m = sp m)) && p (sp m)) = _
      rw [decide_eq_true rfl, Bool.or_true, Bool.true_and]
    have hp' : kNum (fun s => kRp sp s (m + 1) && p s) N + (if (kRp sp (sp m) m && p (sp m)) = true then 1 else 0) = kNum (fun s => kRp sp s m && p s) N + (if (kRp sp (sp m) (m + 1) && p (sp m)) = true then 1 else 0) := hp
    rw [h1] at hp'
    cases hr : kRp sp (sp m) m with
    | true =>
      rw [hr, Bool.true_and] at hp'
      rw [Bool.not_true, Bool.false_and, if_neg (by decide)]
      omega
    | false =>
      rw [hr, Bool.false_and, if_neg (by decide)] at hp'
      rw [Bool.not_false, Bool.true_and]
      omega
/-- a question left -/
def qLe (Q : kAq) (q : Nat) : kAq := (qQ Q, qNd Q, qSh Q, (fun j => if j = q then true else qLf Q j), qN Q, qKy Q, qFr Q, qFo Q)
theorem qLe_C {Q : kAq} {q s : Nat} (hq : q < qQ Q) (hl : qLf Q q = false) : qC (qLe Q q) s + (if kRp (qSh Q q) s (qNd Q q).length = true then 1 else 0) = qC Q s := by
  have hp := kNum_pt (p := qU Q s) (p' := qU (qLe Q q) s) (t := q) (fun k hk => by
    show (!(if k = q then true else qLf Q k) && _) = _
    rw [if_neg hk]
    rfl) (qQ Q) hq
  have h1 : qU (qLe Q q) s q = false := by
    show (!(if q = q then true else qLf Q q) && _) = false
    rw [if_pos rfl]
    rfl
  have h2 : qU Q s q = kRp (qSh Q q) s (qNd Q q).length := by
    unfold qU
    rw [hl]
    rfl
  rw [h1, h2] at hp
  unfold qC
  show kNum (qU (qLe Q q) s) (qQ Q) + _ = _
  simpa using hp
theorem kWq.le' {c q : Nat} {Q : kAq} (w : kWq c Q) : kWq c (qLe Q q) := w
/-- the class while a question leaves: cnt is for how many questions a shelf is -/
def kLf (h H : ka_H) (sb qb cnt : Nat → Nat) (N q : Nat) : Prop := H.1 = h.1 ∧ H.2.1 = h.2.1 ∧ (∀ a, ka_K H a = ka_K h a) ∧ (∀ a, ka_P H a = ka_P h a) ∧ (∀ a, (∀ s, s < N → a ≠ sb s) → a ≠ qb q → ka_I H a = ka_I h a) ∧ (∀ s k, s < N → k ≠ 11 → ka_I H (sb s) k = ka_I h (sb s) k) ∧ (∀ k, k ≠ 4 → ka_I H (qb q) k = ka_I h (qb q) k) ∧ ka_I H (qb q) 4 = 1 ∧ ∀ s, s < N → ka_I H (sb s) 11 = nI (cnt s)
section LV
variable {g : Nat × (Nat → Int32)} {d : Nat} {h H : ka_H} {R : ka_R → ka_H → Prop} {L : kAl} {Q : kAq} {sb qb st cnt : Nat → Nat} {q c : Nat}
theorem kcq.sbne (w : kcq L Q sb qb st h) {s j : Nat} (hs : s < qN Q) (h1 : 1 ≤ j) (h2 : j < 5) : ∀ s', s' < qN Q → sb s + j ≠ sb s' := fun s' hs' z => by
  by_cases e : s' = s
  · rw [e] at z; omega
  · have := w.2.2.1.ne hs hs' e; omega
theorem kcq.qbne (w : kcq L Q sb qb st h) {q' j : Nat} (hq' : q' < qQ Q) (h2 : j < 4) : ∀ s', s' < qN Q → qb q' + j ≠ sb s' := fun s' hs' z => by
  have := (w.2.2.2.2.2.2.1 q' hq').2.2.1 s' hs'
  omega
theorem kcq.lv (w : kcq L Q sb qb st h) (hq : q < qQ Q) (f : kLf h H sb qb cnt (qN Q) q) (hc : ∀ s, s < qN Q → cnt s = qC (qLe Q q) s) : kcq L (qLe Q q) sb qb st H := by
  have w' := w
  obtain ⟨w1, w2, w3, w4, w5, w6, w7, w8⟩ := w
  obtain ⟨f1, f2, f3, f4, f5, f6, f7, f8, f9⟩ := f
  have hqb := (w7 q hq).1.1
  have oth : ∀ a, a < 103 → ka_I H a = ka_I h a := fun a ha => f5 a (fun s hs => by have := (w3.1 s hs).1; omega) (by omega)
  refine ⟨?_, ?_, w3, ?_, fun s hs => ?_, ?_, fun q' hq' => ?_, w8⟩
  · rw [oth 1 (by omega)]; exact w1
  · rw [oth 64 (by omega)]; exact w2
  · rw [f4]; exact w4
  · obtain ⟨y1, y2, y3, y4, y5, y6⟩ := w5 s hs
    have hsq : ∀ j, j < 5 → sb s + j ≠ qb q := fun j hj => by have := (w7 q hq).2.2.1 s hs; omega
    have ha : ∀ j, 1 ≤ j → j < 5 → ka_I H (sb s + j) = ka_I h (sb s + j) := fun j j1 j2 => f5 _ (w'.sbne hs j1 j2) (hsq j j2)
    refine ⟨y1.st (by omega) (fun a _ => f3 a) (f4 _) (fun k hk => f6 s k hs (by omega)) (ha 1 (by omega) (by omega)) (ha 4 (by omega) (by omega)) rfl rfl, fun z => (f6 s 10 hs (by omega)).trans (y2 z), ?_, (f6 s 12 hs (by omega)).trans y4, y5, fun r hr => by rw [ha 2 (by omega) (by omega)]; exact y6 r hr⟩
    rw [f9 s hs, hc s hs]
  · rw [f4]; exact w6
  · by_cases e : q' = q
    · subst e
      obtain ⟨⟨q1, q2, q3, q4, q5, q6, q7, q8, q9, q10, q11⟩, v2, v3, v4⟩ := w7 q' hq'
      refine ⟨⟨q1, by rw [f1]; exact q2, by rw [f3]; exact q3, by rw [f3]; exact q4, by rw [f3]; exact q5, by rw [f3]; exact q6, by rw [f4]; exact q7, by rw [f4]; exact q8, by rw [f4]; exact q9, (f7 0 (by omega)).trans q10, q11⟩, ?_, v3, fun k x hx => ?_⟩
      · rw [f8]
        show 1 = bI (if q' = q' then true else _)
        rw [if_pos rfl]
        rfl
      · obtain ⟨u1, u2, u3⟩ := v4 k x hx
        rw [f4, f5 (qb q' + 2) (w'.qbne hq (by omega)) (by omega), f5 (qb q' + 3) (w'.qbne hq (by omega)) (by omega)]
        exact ⟨u1, u2, u3⟩
    · have hne : qb q' + 4 ≤ qb q ∨ qb q + 4 ≤ qb q' := by
        rcases Nat.lt_or_ge q' q with z | z
        · exact Or.inl (w8 q' q z hq)
        · exact Or.inr (w8 q q' (by omega) hq')
      have := (w7 q' hq').st2 (h' := H) f1 f3 (fun a _ _ => f4 a) (fun a a1 a2 => f5 a (fun s hs => by have := (w7 q' hq').2.2.1 s hs; omega) (by omega))
      obtain ⟨v1, v2, v3, v4⟩ := this
      refine ⟨v1, ?_, v3, v4⟩
      rw [v2]
      show bI (qLf Q q') = bI (if q' = q then true else qLf Q q')
      rw [if_neg e]
/-- how many shelves go with a question -/
def qGo (Q : kAq) (q k : Nat) : Int32 := if kRp (qSh Q q) (qSh Q q k) k = false ∧ qC Q (qSh Q q k) = 1 then 1 else 0
theorem kx_leave {v : Int32} (hf : kf g h) (w : kcq L Q sb qb st h) (wq : kWq c Q) (hq : q < qQ Q) (hl : qLf Q q = false) (h0 : kLf h H sb qb (qC Q) (qN Q) q) (fH : kf g H) (e1 : ∀ H', kf g H' → kLf h H' sb qb (qC (qLe Q q)) (qN Q) q → R (kp_ri (kp_sum (qGo Q q) (qNd Q q).length)) H') : kd_ex g (d + 3) 91 R 16 [.ref 1, .int v, .ref (qb q), .int 0, .int 0, .retAddr 0] [] H := by
  have cq := w.2.2.2.2.2.2.1 q hq
  obtain ⟨q1, q2, q3, q4, q5, q6, q7, q8, q9, q10, q11⟩ := cq.1
  obtain ⟨hn1, h12⟩ := (wq.2.2.2.2 q hq).1
  have w6 := wq.1
  have hQ : ∀ H cnt, kLf h H sb qb cnt (qN Q) q → kQc H (qb q) (qNd Q q).length := fun H cnt f => ⟨q1, by rw [f.1]; exact q2, by rw [f.2.2.1]; exact q3, by rw [f.2.2.1]; exact q4, by rw [f.2.2.1]; exact q5, by rw [f.2.2.1]; exact q6, by rw [f.2.2.2.1]; exact q7, by rw [f.2.2.2.1]; exact q8, by rw [f.2.2.2.1]; exact q9, (f.2.2.2.2.2.2.1 0 (by omega)).trans q10, q11⟩
  have main : ∀ m i H z, i + m = (qNd Q q).length → kf g H → kLf h H sb qb (fun s => qC Q s - (if kRp (qSh Q q) s i = true then 1 else 0)) (qN Q) q → kd_ex g (d + 3) 91 R 16 [.ref 1, .int v, .ref (qb q), .int (kp_sum (qGo Q q) i), .int (nI i), z] [] H := by
    intro m
    induction m with
    | zero =>
      intro i H z hi fH f
      have hq' := hQ H _ f
      refine kd_seg (fun p => Nat.beq p 16) 40 ⟨by rw [hq'.2.2.1], ?_⟩
      rw [hq'.2.2.2.2.2.2.2.2.2.1]
      refine ⟨fun _ => ⟨trivial, ?_⟩, fun c => absurd c (nI_nlt (by omega) (by omega))⟩
      rw [show i = (qNd Q q).length by omega] at f ⊢
      refine e1 H fH ⟨f.1, f.2.1, f.2.2.1, f.2.2.2.1, f.2.2.2.2.1, f.2.2.2.2.2.1, f.2.2.2.2.2.2.1, f.2.2.2.2.2.2.2.1, fun s hs => ?_⟩
      rw [f.2.2.2.2.2.2.2.2 s hs]
      have := qLe_C (s := s) hq hl
      congr 1
      show qC Q s - (if kRp (qSh Q q) s (qNd Q q).length = true then 1 else 0) = _
      omega
    | succ m ih =>
      intro i H z hi fH f
      have hq' := hQ H _ f
      have hKb : (ka_K H (qb q)).1 = 4 := by rw [hq'.2.2.1]
      obtain ⟨x, hx⟩ := kls_at (l := qNd Q q) (k := i) (by omega)
      obtain ⟨hp', hs, cs, h13⟩ := w.nd wq hq (k := i) (by omega)
      have h3 : ka_I H (qb q + 3) i = bI (kRp (qSh Q q) (qSh Q q i) i) := by
        rw [f.2.2.2.2.1 (qb q + 3) (w.qbne hq (by omega)) (by omega)]
        exact (cq.2.2.2 i x hx).2.2
      have hpH : ka_P H (qb q + 1) i = sb (qSh Q q i) := by rw [f.2.2.2.1]; exact hp'
      refine kd_seg (fun p => Nat.beq p 16) 40 ⟨hKb, ?_⟩
      rw [hq'.2.2.2.2.2.2.2.2.2.1]
      refine ⟨fun c => absurd (nI_lt (by omega) (by omega)) c, fun _ => ⟨hKb, ?_⟩⟩
      refine kc_firstAt (rp := fun k => kRp (qSh Q q) (qSh Q q k) k) fH hq' (by omega) (by rw [hpH]; exact cs.ne) h3 (fun e => ⟨fH, ⟨fun _ => ?_, fun y => absurd rfl y⟩⟩) (fun e => ⟨fH, ?_⟩)
      · have e' : kRp (qSh Q q) (qSh Q q i) i = true := e
        have fr : (fun s => qC Q s - (if kRp (qSh Q q) s i = true then 1 else 0)) = (fun s => qC Q s - (if kRp (qSh Q q) s (i + 1) = true then 1 else 0)) := by
          funext s
          show _ = qC Q s - (if (kRp (qSh Q q) s i || decide (qSh Q q i = s)) = true then 1 else 0)
          by_cases y : qSh Q q i = s
          · rw [← y, e', decide_eq_true rfl]; rfl
          · rw [decide_eq_false y, Bool.or_false]
        rw [fr] at f
        have := ih (i + 1) H (.ref 0) (by omega) fH f
        rw [nI_succ, show kp_sum (qGo Q q) (i + 1) = kp_sum (qGo Q q) i + qGo Q q i from rfl, show qGo Q q i = 0 from if_neg (fun y => by rw [e'] at y; cases y.1), Int32.add_zero] at this
        exact this
      · have e' : kRp (qSh Q q) (qSh Q q i) i = false := e
        rw [hpH]
        have hKs : (ka_K H (sb (qSh Q q i))).1 = 5 := by rw [f.2.2.1]; exact cs.K
        have h11 : ka_I H (sb (qSh Q q i)) 11 = nI (qC Q (qSh Q q i)) := by
          rw [f.2.2.2.2.2.2.2.2 _ hs]
          show nI (qC Q (qSh Q q i) - (if kRp (qSh Q q) (qSh Q q i) i = true then 1 else 0)) = _
          rw [e']
          rfl
        have hc1 : 1 ≤ qC Q (qSh Q q i) := by
          have := qLe_C (s := qSh Q q i) hq hl
          rw [(kRp_iff (sp := qSh Q q) (s := qSh Q q i) (qNd Q q).length).mpr ⟨i, by omega, rfl⟩, if_pos rfl] at this
          omega
        have hc6 : qC Q (qSh Q q i) ≤ 6 := by
          have := kNum_le (qU Q (qSh Q q i)) (qQ Q)
          unfold qC
          omega
        refine ⟨fun y => absurd y cs.ne, fun _ => ⟨hKs, ?_⟩⟩
        rw [h11]
        refine ⟨hKs, ?_⟩
        rw [show nI (qC Q (qSh Q q i)) - Int32.ofInt 1 = nI (qC Q (qSh Q q i) - 1) from nI_m1' hc1]
        have hsb := (w.2.2.1.1 _ hs).1
        have hqs := cq.2.2.1 _ hs
        have f' : kLf h (ka_sI H (sb (qSh Q q i)) 11 (nI (qC Q (qSh Q q i) - 1))) sb qb (fun s => qC Q s - (if kRp (qSh Q q) s (i + 1) = true then 1 else 0)) (qN Q) q := by
          refine ⟨f.1, f.2.1, f.2.2.1, f.2.2.2.1, fun a a1 a2 => (kI_o _ _ _ (a1 _ hs)).trans (f.2.2.2.2.1 a a1 a2), fun s k hs' hk => (ka_IJ _ _ _ _ hk).trans (f.2.2.2.2.2.1 s k hs' hk), fun k hk => ?_, ?_, fun s hs' => ?_⟩
          · rw [kI_o _ _ _ (by omega)]; exact f.2.2.2.2.2.2.1 k hk
          · rw [kI_o _ _ _ (by omega)]; exact f.2.2.2.2.2.2.2.1
          · show _ = nI (qC Q s - (if (kRp (qSh Q q) s i || decide (qSh Q q i = s)) = true then 1 else 0))
            by_cases y : qSh Q q i = s
            · rw [← y, decide_eq_true rfl, Bool.or_true, if_pos rfl]; exact ka_IS _ _ _ _
            · rw [decide_eq_false y, Bool.or_false]
              have hne : sb s ≠ sb (qSh Q q i) := fun z => by have := w.2.2.1.ne hs hs' (fun t => y t.symm); omega
              rw [kI_o _ _ _ hne]
              exact f.2.2.2.2.2.2.2.2 s hs'
        have fH' : kf g (ka_sI H (sb (qSh Q q i)) 11 (nI (qC Q (qSh Q q i) - 1))) := kf_sI fH (by rw [hKs]; decide)
        refine ⟨hKs, ?_⟩
        rw [ka_IS]
        have nx := ih (i + 1) _ (.ref (sb (qSh Q q i))) (by omega) fH' f'
        rw [nI_succ, show kp_sum (qGo Q q) (i + 1) = kp_sum (qGo Q q) i + qGo Q q i from rfl] at nx
        refine ⟨fun y => ?_, fun y => ?_⟩
        · have : ¬ qC Q (qSh Q q i) = 1 := fun t => y (by rw [t]; rfl)
          rw [show qGo Q q i = 0 from if_neg (fun t => this t.2)] at nx
          exact nx
        · have : qC Q (qSh Q q i) = 1 := by
            have := (nI_eq (b := 0) (by omega) (by omega)).mp y
            omega
          rw [show qGo Q q i = 1 from if_pos ⟨e', this⟩] at nx
          exact nx
  exact main _ 0 H _ (Nat.zero_add _) fH h0
end LV
