/-! ===== the class: a question is there ===== -/
section QE
variable {g : Nat × (Nat → Int32)} {d : Nat} {h h' : ka_H} {R : ka_R → ka_H → Prop} {L : kAl} {Q : kAq} {sb qb st sb' : Nat → Nat} {nds : List kN} {c : Nat}
theorem kcq.stP (w : kcq L Q sb qb st h) (h103 : 103 ≤ h.1) (hn : h.1 ≤ h'.1) (hK : ∀ a, a < h.1 → ka_K h' a = ka_K h a) (h68 : ka_P h' 68 = ka_P h 68) (h69 : ka_P h' 69 = ka_P h 69) (hP : ∀ a, 103 ≤ a → a < h.1 → ka_P h' a = ka_P h a) (hI : ∀ a, 103 ≤ a → a < h.1 → ka_I h' a = ka_I h a) (h1 : ka_I h' 1 = ka_I h 1) (h64 : ka_I h' 64 = ka_I h 64) : kcq L Q sb qb st h' := by
  obtain ⟨w1, w2, w3, w4, w5, w6, w7, w8⟩ := w
  unfold kcq
  rw [h1, h64, h68, h69]
  exact ⟨w1, w2, w3, w4, fun s hs => (w5 s hs).st hn hK hP hI (Nat.le_refl _) (fun _ _ => rfl), w6, fun q hq => (w7 q hq).st hn hK hP hI, w8⟩
/-- reading leaves the class's state, but for its tape -/
theorem kcA.rt {A : kA} {v : Int32} {h h' : ka_H} (q : kcA A h) (h103 : 103 ≤ h.1) (e1 : h'.1 = h.1) (hK : ∀ a, ka_K h' a = ka_K h a) (hP : ∀ a, a = 68 ∨ a = 69 ∨ 103 ≤ a → ka_P h' a = ka_P h a) (hI : ∀ a, a < 9 ∨ 62 < a → ka_I h' a = ka_I h a) (i1 : ka_I h' 9 1 = 0) (i4 : ka_I h' 9 4 = v) : kcA (A.1, (0, tP A.2.1, v), A.2.2) h' := by
  obtain ⟨q1, q2, q3, sb, qb, st, q4⟩ := q
  exact ⟨q1.st (fun a a1 a2 => hI a (by omega)), ⟨i1, i4, fun k hk => absurd hk (Nat.not_lt_zero k)⟩, q3.st (by rw [hI 1 (by omega)]) (hI 70 (by omega)), sb, qb, st, q4.stP h103 (by omega) (fun a _ => hK a) (hP 68 (by omega)) (hP 69 (by omega)) (fun a a1 _ => hP a (by omega)) (fun a a1 _ => hI a (by omega)) (hI 1 (by omega)) (hI 64 (by omega))⟩
theorem pc_N {a k : Nat} (h : a < 9 ∨ 62 < a) : pc a k = false := by
  have e1 : ∀ x, x ≠ a → Nat.beq a x = false := fun x hx => by
    cases hb : Nat.beq a x with
    | false => rfl
    | true => exact absurd (Nat.eq_of_beq_eq_true hb).symm hx
  unfold pc
  rw [e1 9 (by omega), e1 11 (by omega), e1 13 (by omega)]
  show (Nat.ble 15 a && Nat.ble a 62) = false
  rcases h with z | z
  · have : Nat.ble 15 a = false := by
      cases hb : Nat.ble 15 a with
      | false => rfl
      | true => have := Nat.le_of_ble_eq_true hb; omega
    rw [this]; rfl
  · have : Nat.ble a 62 = false := by
      cases hb : Nat.ble a 62 with
      | false => rfl
      | true => have := Nat.le_of_ble_eq_true hb; omega
    rw [this, Bool.and_false]
theorem pq_N {a k : Nat} (h : 62 < a) : pq a k = false := by
  unfold pq
  have : Nat.ble a 61 = false := by
    cases hb : Nat.ble a 61 with
    | false => rfl
    | true => have := Nat.le_of_ble_eq_true hb; omega
  rw [this, Bool.and_false, Bool.false_and]
theorem kcs_IN {s : Nat → Nat → Int32} {w : Nat → Nat} {a : Nat} (ha : a < 9 ∨ 62 < a) : ka_I (kcs h s w) a = ka_I h a := funext fun k => kcs_N (pc_N ha)
theorem kcs_PN {s : Nat → Nat → Int32} {w : Nat → Nat} {a : Nat} (ha : 62 < a) : ka_P (kcs h s w) a = ka_P h a := funext fun k => by
  show cond (pq a k) (w a) (h.2.2.2.2.1 a k) = _
  rw [pq_N ha]; rfl
theorem kb_IN {n a : Nat} (ha : a ≠ 9) : ka_I (kb_h h n) a = ka_I h a := by
  unfold kb_h
  rw [kI_o _ _ _ ha, kI_o _ _ _ ha, kI_o _ _ _ ha, kI_o _ _ _ ha, kI_o _ _ _ ha]
theorem kcq.qu {h0 : ka_H} (w : kcq L Q sb qb st h0) (wq : kWq c Q) (h6 : qQ Q < 6) (h103 : 103 ≤ h0.1) (hNl : kNl 0 nds) (q : kCG g h0 Q sb nds nds.length (kSv nds (qN Q) (qKy Q) (qLv Q) nds.length).1 (kSv nds (qN Q) (qKy Q) (qLv Q) nds.length).2.1 (kSv nds (qN Q) (qKy Q) (qLv Q) nds.length).2.2 sb' h) :
    kcq L (qQu Q nds) sb' (fun q => if q = qQ Q then h0.1 else qb q) (fun s => if s < qN Q then st s else 0) (ka_sI (ka_sP h 69 (qQ Q) h0.1) 1 9 (nI (qQ Q + 1))) := by
  have hold : ∀ s, s < qN Q → 103 ≤ sb s ∧ sb s + 5 ≤ h0.1 := fun s hs => (w.2.2.2.2.1 s hs).1.1
  have hok := kSv_ok (lv := qLv Q) hNl (fun s hs => (wq.2.2.2.1 s hs).1) nds.length (Nat.le_refl _)
  have hsb := fun (s j : Nat) (hs : s < qN Q) (j1 : 1 ≤ j) (j2 : j < 5) => w.sbne (s := s) (j := j) hs j1 j2
  have hqb := fun (q j : Nat) (hq : q < qQ Q) (j2 : j < 4) => w.qbne (q' := q) (j := j) hq j2
  obtain ⟨w1, w2, w3, w4, w5, w6, w7, w8⟩ := w
  obtain ⟨⟨a1, a2, a3, a4⟩, ⟨f1, f2, f3, f4, f5⟩, ⟨c1, c2, c3, c4, c5⟩, d1, e1, ⟨k1, k2, k3, k4⟩⟩ := q
  have oI : ∀ a, a ≠ 1 → ka_I (ka_sI (ka_sP h 69 (qQ Q) h0.1) 1 9 (nI (qQ Q + 1))) a = ka_I h a := fun a ha => kI_o (ka_sP h 69 (qQ Q) h0.1) _ _ ha
  have o1 : ∀ k, k ≠ 9 → ka_I (ka_sI (ka_sP h 69 (qQ Q) h0.1) 1 9 (nI (qQ Q + 1))) 1 k = ka_I h 1 k := fun k hk => ka_IJ (ka_sP h 69 (qQ Q) h0.1) _ _ _ hk
  have oP : ∀ a, a ≠ 69 → ka_P (ka_sI (ka_sP h 69 (qQ Q) h0.1) 1 9 (nI (qQ Q + 1))) a = ka_P h a := fun a ha => funext fun j => ka_uN _ _ _ _ ha j
  have oP9 : ∀ k, k ≠ qQ Q → ka_P (ka_sI (ka_sP h 69 (qQ Q) h0.1) 1 9 (nI (qQ Q + 1))) 69 k = ka_P h 69 k := fun k hk => ka_uJ (ka_P h) 69 (qQ Q) h0.1 69 hk
  have nP9 : ka_P (ka_sI (ka_sP h 69 (qQ Q) h0.1) 1 9 (nI (qQ Q + 1))) 69 (qQ Q) = h0.1 := ka_uS (ka_P h) 69 (qQ Q) h0.1
  have hn1 : h0.1 + 4 ≤ h.1 := by omega
  refine ⟨⟨(o1 8 (by decide)).trans c1, ka_IS (ka_sP h 69 (qQ Q) h0.1) _ _ _, ((o1 11 (by decide)).trans (f3 11 (by decide))).trans w1.2.2⟩, fun r hr => ?_, c2, fun s hs => ?_, fun s hs => ?_, fun q hq => ?_, fun q hq => ?_, fun q q' h1 h2 => ?_⟩
  · rw [oI 64 (by decide), f2 64 (by omega) (by omega) (fun s hs => by have := hold s hs; omega)]; exact w2 r hr
  · rw [oP 68 (by decide)]; exact c5 s hs
  · have hsf := (d1 s hs).1
    have hl := hsf.1
    have sf2 := hsf.st (h' := ka_sI (ka_sP h 69 (qQ Q) h0.1) 1 9 (nI (qQ Q + 1))) (Nat.le_refl _) (fun _ _ => rfl) (oP _ (by omega)) (fun k _ => by rw [oI _ (by omega)]) (oI _ (by omega)) (oI _ (by omega)) rfl rfl
    refine ⟨sf2, fun z => ?_, ?_, ?_, ?_, fun r hr => ?_⟩
    · rw [oI _ (by omega)]
      show _ = nI (if s < qN Q then qFr Q s else qFo Q)
      by_cases u : s < qN Q
      · rw [if_pos u, c3 s u, f4 s 10 u (by decide)]
        refine (w5 s u).2.1 ?_
        have z' : ((kSv nds (qN Q) (qKy Q) (qLv Q) nds.length).2.1 s).1 ≠ 0 := z
        rw [hok.1 s u] at z'
        exact z'
      · rw [if_neg u, (e1 s (by omega) hs).1]
        exact w1.2.2
    · rw [oI _ (by omega), (d1 s hs).2, qQu_C]
    · rw [oI _ (by omega)]
      show _ = nI (if s < qN Q then st s else 0) - 1
      by_cases u : s < qN Q
      · rw [if_pos u, c3 s u, f4 s 12 u (by decide)]
        exact (w5 s u).2.2.2.1
      · rw [if_neg u, (e1 s (by omega) hs).2.1]
        rfl
    · show (if s < qN Q then st s else 0) ≤ _
      by_cases u : s < qN Q
      · rw [if_pos u]; exact (w5 s u).2.2.2.2.1
      · rw [if_neg u]; exact Nat.zero_le _
    · rw [oI _ (by omega)]
      show _ = kSV (kSv nds (qN Q) (qKy Q) (qLv Q) nds.length).2.1 (lT L (if s < qN Q then st s else 0)) s r
      by_cases u : s < qN Q
      · have := hold s u
        rw [if_pos u, c3 s u, f2 _ (by omega) (by omega) (hsb s 2 u (by omega) (by omega)), (w5 s u).2.2.2.2.2 r hr, kSV_ky (ky' := (kSv nds (qN Q) (qKy Q) (qLv Q) nds.length).2.1) (s := s) (fun s' hs' => (hok.1 s' (by omega)).symm)]
      · rw [if_neg u, (e1 s (by omega) hs).2.2 r]
        exact (kSV_z (fun t r => lT_0 t r) s (fun s' hs' => hok.2.1 s' (Nat.lt_of_le_of_lt hs' hs)) r hr).symm
  · show _ = if q < qQ Q + 1 then (if q = qQ Q then h0.1 else qb q) else 0
    by_cases z : q = qQ Q
    · rw [z, nP9, if_pos (by omega), if_pos rfl]
    · rw [oP9 q z, f5 69 (by omega) (by omega), w6 q hq, if_neg z]
      by_cases u : q < qQ Q
      · rw [if_pos u, if_pos (by omega)]
      · rw [if_neg u, if_neg (by omega)]
  · have hq' : q < qQ Q + 1 := hq
    by_cases z : q = qQ Q
    · subst z
      unfold kcq1
      show kQc _ (if qQ Q = qQ Q then h0.1 else qb (qQ Q)) (if qQ Q = qQ Q then nds else qNd Q (qQ Q)).length ∧ ka_I _ (if qQ Q = qQ Q then h0.1 else qb (qQ Q)) 4 = bI (if qQ Q = qQ Q then false else qLf Q (qQ Q)) ∧ (∀ s, s < (kSv nds (qN Q) (qKy Q) (qLv Q) nds.length).1 → (if qQ Q = qQ Q then h0.1 else qb (qQ Q)) + 4 ≤ sb' s ∨ sb' s + 5 ≤ (if qQ Q = qQ Q then h0.1 else qb (qQ Q))) ∧ ∀ k x, (if qQ Q = qQ Q then nds else qNd Q (qQ Q))[k]? = some x → ka_P _ ((if qQ Q = qQ Q then h0.1 else qb (qQ Q)) + 1) k = sb' ((if qQ Q = qQ Q then (kSv nds (qN Q) (qKy Q) (qLv Q) nds.length).2.2 else qSh Q (qQ Q)) k) ∧ ka_I _ ((if qQ Q = qQ Q then h0.1 else qb (qQ Q)) + 2) k = nI x.2.2.2.2.1 ∧ ka_I _ ((if qQ Q = qQ Q then h0.1 else qb (qQ Q)) + 3) k = bI (kRp (if qQ Q = qQ Q then (kSv nds (qN Q) (qKy Q) (qLv Q) nds.length).2.2 else qSh Q (qQ Q)) ((if qQ Q = qQ Q then (kSv nds (qN Q) (qKy Q) (qLv Q) nds.length).2.2 else qSh Q (qQ Q)) k) k)
      simp only [if_pos]
      refine ⟨?_, ?_, fun s hs => ?_, fun k x hx => ?_⟩
      · obtain ⟨y1, y2, y3, y4, y5, y6, y7, y8, y9, y10, y11⟩ := k1
        unfold kQc
        rw [oP _ (by omega), oI _ (by omega)]
        exact ⟨y1, y2, y3, y4, y5, y6, y7, y8, y9, y10, y11⟩
      · rw [oI _ (by omega)]; exact k2
      · rcases Nat.lt_or_ge s (qN Q) with u | u
        · rw [c3 s u]; exact Or.inr (hold s u).2
        · exact Or.inl (c4 s u hs).1
      · rw [oP _ (by omega), oI _ (by omega), oI _ (by omega)]
        exact k3 k x (kls_lt hx) hx
    · have hq2 : q < qQ Q := by omega
      have hu := w7 q hq2
      have hb := hu.1.2.1
      have hb1 := hu.1.1
      unfold kcq1
      show kQc _ (if q = qQ Q then h0.1 else qb q) (if q = qQ Q then nds else qNd Q q).length ∧ ka_I _ (if q = qQ Q then h0.1 else qb q) 4 = bI (if q = qQ Q then false else qLf Q q) ∧ (∀ s, s < (kSv nds (qN Q) (qKy Q) (qLv Q) nds.length).1 → (if q = qQ Q then h0.1 else qb q) + 4 ≤ sb' s ∨ sb' s + 5 ≤ (if q = qQ Q then h0.1 else qb q)) ∧ ∀ k x, (if q = qQ Q then nds else qNd Q q)[k]? = some x → ka_P _ ((if q = qQ Q then h0.1 else qb q) + 1) k = sb' ((if q = qQ Q then (kSv nds (qN Q) (qKy Q) (qLv Q) nds.length).2.2 else qSh Q q) k) ∧ ka_I _ ((if q = qQ Q then h0.1 else qb q) + 2) k = nI x.2.2.2.2.1 ∧ ka_I _ ((if q = qQ Q then h0.1 else qb q) + 3) k = bI (kRp (if q = qQ Q then (kSv nds (qN Q) (qKy Q) (qLv Q) nds.length).2.2 else qSh Q q) ((if q = qQ Q then (kSv nds (qN Q) (qKy Q) (qLv Q) nds.length).2.2 else qSh Q q) k) k)
      simp only [if_neg z]
      have g0 : ∀ j, j < 4 → ka_I (ka_sI (ka_sP h 69 (qQ Q) h0.1) 1 9 (nI (qQ Q + 1))) (qb q + j) = ka_I h0 (qb q + j) := fun j hj => (oI _ (by omega)).trans (f2 _ (by omega) (by omega) (hqb q j hq2 hj))
      have g00 := g0 0 (by omega)
      simp only [Nat.add_zero] at g00
      have p0 : ∀ j, j < 4 → ka_P (ka_sI (ka_sP h 69 (qQ Q) h0.1) 1 9 (nI (qQ Q + 1))) (qb q + j) = ka_P h0 (qb q + j) := fun j hj => (oP _ (by omega)).trans (f5 _ (by omega) (by omega))
      have p00 := p0 0 (by omega)
      simp only [Nat.add_zero] at p00
      have kk : ∀ j, j < 4 → ka_K (ka_sI (ka_sP h 69 (qQ Q) h0.1) 1 9 (nI (qQ Q + 1))) (qb q + j) = ka_K h0 (qb q + j) := fun j hj => f1 _ (by omega)
      have kk0 := kk 0 (by omega)
      simp only [Nat.add_zero] at kk0
      obtain ⟨⟨y1, y2, y3, y4, y5, y6, y7, y8, y9, y10, y11⟩, u2, u3, u4⟩ := hu
      refine ⟨?_, ?_, fun s hs => ?_, fun k x hx => ?_⟩
      · unfold kQc
        rw [kk0, kk 1 (by omega), kk 2 (by omega), kk 3 (by omega), p00, g00]
        exact ⟨y1, by show qb q + 4 ≤ h.1; omega, y3, y4, y5, y6, y7, y8, y9, y10, y11⟩
      · rw [g00]; exact u2
      · rcases Nat.lt_or_ge s (qN Q) with u | u
        · rw [c3 s u]; exact u3 s u
        · have := (c4 s u hs).1; exact Or.inl (by omega)
      · have hsx := ((wq.2.2.2.2 q hq2).2.2 k x hx).1
        rw [p0 1 (by omega), g0 2 (by omega), g0 3 (by omega), c3 _ hsx]
        exact u4 k x hx
  · have h2' : q' < qQ Q + 1 := h2
    show (if q = qQ Q then h0.1 else qb q) + 4 ≤ (if q' = qQ Q then h0.1 else qb q')
    rw [if_neg (by omega)]
    by_cases z : q' = qQ Q
    · rw [if_pos z]; exact (w7 q (by omega)).1.2.1
    · rw [if_neg z]; exact w8 q q' h1 (by omega)
end QE
