/-! ===== question: both sides ===== -/
section QN
variable {A : kA}
theorem pm_N {a k : Nat} (h : a < 79 ∨ a = 84 ∨ a = 89 ∨ 91 < a) (h72 : a ≠ 72) : pm a k = false := by
  have e1 : ∀ x, x ≠ a → Nat.beq a x = false := fun x hx => by
    cases hb : Nat.beq a x with
    | false => rfl
    | true => exact absurd (Nat.eq_of_beq_eq_true hb).symm hx
  have e2 : ∀ x y, ¬ (x ≤ a ∧ a ≤ y) → (Nat.ble x a && Nat.ble a y) = false := fun x y hx => by
    cases hb : Nat.ble x a && Nat.ble a y with
    | false => rfl
    | true =>
      rw [Bool.and_eq_true] at hb
      exact absurd ⟨Nat.le_of_ble_eq_true hb.1, Nat.le_of_ble_eq_true hb.2⟩ hx
  unfold pm
  rw [e1 72 (by omega), e2 79 83 (by omega), e2 85 88 (by omega), e1 90 (by omega), e1 91 (by omega)]
  rfl
theorem kms_IN {h : ka_H} {s : Nat → Nat → Int32} {a : Nat} (ha : a < 79 ∨ a = 84 ∨ a = 89 ∨ 91 < a) (h72 : a ≠ 72) : ka_I (kms h s) a = ka_I h a := funext fun k => kms_N (pm_N ha h72)
theorem kms_72 {h : ka_H} {s : Nat → Nat → Int32} {k : Nat} (hk : k < 23 ∨ k = 28 ∨ 31 < k) : ka_I (kms h s) 72 k = ka_I h 72 k := by
  refine kms_N ?_
  have e1 : ∀ x, x ≠ k → Nat.beq k x = false := fun x hx => by
    cases hb : Nat.beq k x with
    | false => rfl
    | true => exact absurd (Nat.eq_of_beq_eq_true hb).symm hx
  show (Nat.beq k 23 || Nat.beq k 24 || Nat.beq k 25 || Nat.beq k 26 || Nat.beq k 27 || Nat.beq k 30 || Nat.beq k 31) = false
  rw [e1 23 (by omega), e1 24 (by omega), e1 25 (by omega), e1 26 (by omega), e1 27 (by omega), e1 30 (by omega), e1 31 (by omega)]
  rfl
theorem kms_79 {h : ka_H} {s : Nat → Nat → Int32} {a k : Nat} (ha : 79 ≤ a ∧ a ≤ 83 ∨ 85 ≤ a ∧ a ≤ 88) : ka_I (kms h s) a k = s a k := by
  refine kms_I ?_
  rcases (by omega : a = 79 ∨ a = 80 ∨ a = 81 ∨ a = 82 ∨ a = 83 ∨ a = 85 ∨ a = 86 ∨ a = 87 ∨ a = 88) with z | z | z | z | z | z | z | z | z <;> rw [z] <;> rfl
/-- the reference, a text read: its state but for its tape -/
theorem kmA.rt {h : ka_H} {n : Nat} {v : Int32} {s' : Nat → Nat → Int32} {t79 : Int32} (hM : kmA A h) (w : kWA A) (hfr : kMfr (qQ A.2.2.1) 0 (kq_s h n (qQ A.2.2.1)) s') (X : ka_H) (hX : X = kms (ka_sI (kq_h h n) 72 28 v) s' ∨ X = kms (ka_sI (kq_h h n) 72 28 v) (ka_u s' 79 (qQ A.2.2.1) t79)) : kmA (A.1, (0, tP A.2.1, v), A.2.2) X ∧ kFm h X ∧ ka_I X 72 0 = 0 ∧ ka_I X 72 9 = nI (qQ A.2.2.1) := by
  have fh : ∀ a, a ≠ 72 → ka_I (ka_sI (kq_h h n) 72 28 v) a = ka_I h a := fun a ha => by
    unfold kq_h
    rw [kI_o _ _ _ ha, kI_o _ _ _ ha, kI_o _ _ _ ha, kI_o _ _ _ ha, kI_o _ _ _ ha]
  have f72 : ∀ k, k ≠ 0 → k ≠ 21 → k ≠ 22 → k ≠ 28 → ka_I (ka_sI (kq_h h n) 72 28 v) 72 k = ka_I h 72 k := fun k k0 k1 k2 k3 => by
    unfold kq_h
    rw [ka_IJ _ _ _ _ k3, ka_IJ _ _ _ _ k2, ka_IJ _ _ _ _ k3, ka_IJ _ _ _ _ k1, ka_IJ _ _ _ _ k0]
  obtain ⟨s2, hX2, h79⟩ : ∃ s2, X = kms (ka_sI (kq_h h n) 72 28 v) s2 ∧ (∀ q, q ≠ qQ A.2.2.1 → s2 79 q = s' 79 q) ∧ ∀ a, a ≠ 79 → s2 a = s' a := by
    rcases hX with hX | hX
    · exact ⟨s', hX, fun _ _ => rfl, fun _ _ => rfl⟩
    · exact ⟨_, hX, fun q hq => ka_uJ _ _ _ _ _ hq, fun a ha => funext fun j => ka_uN _ _ _ _ ha j⟩
  subst hX2
  have sq : ∀ a, a ≠ 72 → a ≠ 79 → kq_s h n (qQ A.2.2.1) a = ka_I h a := fun a a1 a2 => funext fun j => by
    unfold kq_s
    rw [ka_uN _ _ _ _ a2, ka_uN _ _ _ _ a1, ka_uN _ _ _ _ a1, ka_uN _ _ _ _ a1, ka_uN _ _ _ _ a1]
    unfold kq_h
    rw [kI_o _ _ _ a1, kI_o _ _ _ a1, kI_o _ _ _ a1, kI_o _ _ _ a1]
  have sq9 : ∀ q, q ≠ qQ A.2.2.1 → kq_s h n (qQ A.2.2.1) 79 q = ka_I h 79 q := fun q hq => by
    unfold kq_s
    rw [ka_uJ _ _ _ _ _ hq, ka_uN _ _ _ _ (by decide), ka_uN _ _ _ _ (by decide), ka_uN _ _ _ _ (by decide), ka_uN _ _ _ _ (by decide)]
    unfold kq_h
    rw [kI_o _ _ _ (by decide), kI_o _ _ _ (by decide), kI_o _ _ _ (by decide), kI_o _ _ _ (by decide)]
  have lo : kLo h (kms (ka_sI (kq_h h n) 72 28 v) s2) (12 * qQ A.2.2.1) := ⟨fun a ha i hi => by
    rw [kms_79 (by omega), h79.2 a (by omega), hfr.2.1 a ha i (by omega), sq a (by omega) (by omega)], fun a ha j hj => by
    rw [kms_79 (by omega), h79.2 a (by omega), hfr.2.2 a ha j (by omega), sq a (by omega) (by omega)]⟩
  have oN : ∀ a, a ≠ 72 → (a < 79 ∨ a = 84 ∨ a = 89 ∨ 91 < a) → ka_I (kms (ka_sI (kq_h h n) 72 28 v) s2) a = ka_I h a := fun a a1 a2 => (kms_IN a2 a1).trans (fh a a1)
  have oM : ∀ k, k ≠ 0 → k ≠ 21 → k ≠ 22 → k ≠ 28 → (k < 23 ∨ k = 28 ∨ 31 < k) → ka_I (kms (ka_sI (kq_h h n) 72 28 v) s2) 72 k = ka_I h 72 k := fun k k0 k1 k2 k3 k4 => (kms_72 k4).trans (f72 k k0 k1 k2 k3)
  refine ⟨⟨hM.1.st (fun k hk => oM k (by omega) (by omega) (by omega) (by omega) (by omega)) (fun a a1 a2 => oN a (by omega) (by omega)), ⟨?_, ?_, fun k hk => absurd hk (Nat.not_lt_zero k)⟩, hM.2.2.1.lo w.2.2.1 lo (fun k hk => oM k (by omega) (by omega) (by omega) (by omega) (by omega)) (fun q hq => ?_) (fun a ha => oN a (by omega) (by omega)), hM.2.2.2.st (oM 44 (by omega) (by omega) (by omega) (by omega) (by omega)) (fun a a1 a2 => oN a (by omega) (by omega))⟩, ⟨rfl, rfl, fun _ => rfl, fun _ => rfl, fun _ => rfl, fun a ha => oN a (by omega) (by omega)⟩, ?_, (oM 9 (by omega) (by omega) (by omega) (by omega) (by omega)).trans hM.2.2.1.1⟩
  · rw [kms_72 (by omega)]; rfl
  · rw [kms_72 (by omega)]; rfl
  · rw [kms_79 (by omega), h79.1 q (by omega), hfr.1 q (by omega), sq9 q (by omega)]
  · rw [kms_72 (by omega)]; rfl
theorem ko_question (w : kWA A) (nn : Int32) : kOx (kmp1 0) 200 89 183 [.int nn] A := by
  have hF := w.2.1.1
  have w6 := w.2.2.1.1
  have hS : ∀ n, n ≤ tF A.2.1 → kXS n (tP A.2.1) 0 0 0 := fun n hn => kXS_all (by omega) n 0 (by omega) (by omega) 0 0 (Nat.le_refl _) (by omega)
  have hSx : ∀ n, ∃ o, n ≤ tF A.2.1 → ((∀ Q, Q < 6 → kXM (XM 0) n (tP A.2.1) Q 0 0 0 o) ∧ kXC (XC 0) n (tP A.2.1) 0 0 0 o ∧ kXQ n 0 0 0 o) := fun n => by
    by_cases z : n ≤ tF A.2.1
    · obtain ⟨o, h⟩ := hS n z
      exact ⟨o, fun _ => h⟩
    · exact ⟨.inl (0, 0), fun y => absurd y z⟩
  obtain ⟨o, ho'⟩ : ∃ o : Nat → kX, ∀ n, n ≤ tF A.2.1 → ((∀ Q, Q < 6 → kXM (XM 0) n (tP A.2.1) Q 0 0 0 (o n)) ∧ kXC (XC 0) n (tP A.2.1) 0 0 0 (o n) ∧ kXQ n 0 0 0 (o n)) := ⟨fun n => Classical.choose (hSx n), fun n => Classical.choose_spec (hSx n)⟩
  have cx := fun (g : Nat × (Nat → Int32)) (h : ka_H) (R : ka_R → ka_H → Prop) (hf : kf g h) (hn : h.1 < 1000000) (hC : kcA A h) => (kc_questionC (R := R) (nn := nn) (o := o) hf hn hC.2.1.1 hF (by obtain ⟨-, -, -, sb, qb, st, q4⟩ := hC; exact q4.1.2.1) w6 hC.2.1.2.2 w.2.1.2 (fun n hn => (ho' n hn).2.1) (fun n hn => (ho' n hn).2.2) (by decide))
  have cm := fun (g : Nat × (Nat → Int32)) (h : ka_H) (R : ka_R → ka_H → Prop) (hf : kf g h) (hM : kmA A h) => (kc_questionM (R := R) (nn := nn) (o := o) hf hM.2.1.1 hF hM.2.2.1.1 w6 hM.2.1.2.2 w.2.1.2 (fun n hn h6 => (ho' n hn).1 _ h6) (fun n hn => (ho' n hn).2.2) (by decide))
  by_cases c1 : 0 ≤ nn ∧ nn ≤ nI (tF A.2.1)
  · obtain ⟨n, hn, rfl⟩ := i32_le c1 (by omega)
    have un : ∀ n', nI n = nI n' → n' ≤ tF A.2.1 → n' = n := fun n' e h' => ((nI_eq (by omega) (by omega)).mp e).symm
    have wt : ∀ v, kWt (0, tP A.2.1, v) := fun v => ⟨Nat.zero_le _, fun k hk => absurd hk (Nat.not_lt_zero k)⟩
    by_cases c2 : qQ A.2.2.1 = 6
    · -- full
      refine ⟨(A.1, (0, tP A.2.1, -1), A.2.2), 0, 0, -1, ⟨w.1, wt _, w.2.2⟩, fun z => absurd rfl z, fun g h R hf hb hC e0 e1 => ?_, fun g h R hf hM e3 => ?_⟩
      · refine (cx g h R hf (by omega) hC (fun z => absurd c1 z) (fun n' _ _ _ => e1 rfl _ (kb_f hf) ?_ ?_) (fun n' kd pl s' w' _ _ z => by omega) (fun n' nds s' w' sc _ _ z => by omega)).le (by decide)
        · exact hC.rt hf.1 rfl (fun _ => rfl) (fun _ _ => rfl) (fun a ha => kb_IN (by omega)) rfl rfl
        · exact ⟨Nat.le_add_right _ _, Nat.le_add_right _ _, fun a a1 a2 => kb_IN (by omega)⟩
      · refine (cm g h R hf hM (fun z => absurd c1 z) (fun _ _ => e3 _ _ (kf_m (kf_m (kf_m hf))) ?_ ((kFm.m0.sI (by omega)).sI (by omega)) rfl (fun _ => rfl)) (fun n' kd pl s' _ _ z => by omega) (fun n' nds s' x _ _ z => by omega)).le (by decide)
        have oI : ∀ a, a ≠ 72 → ka_I (ka_sI (ka_sI (km_0 h) 72 21 0) 72 28 (-1)) a = ka_I h a := fun a ha => by rw [kI_o _ _ _ ha, kI_o _ _ _ ha, kI_o _ _ _ ha]
        have o72 : ∀ k, k ≠ 0 → k ≠ 21 → k ≠ 28 → ka_I (ka_sI (ka_sI (km_0 h) 72 21 0) 72 28 (-1)) 72 k = ka_I h 72 k := fun k k0 k1 k2 => by rw [ka_IJ _ _ _ _ k2, ka_IJ _ _ _ _ k1, ka_IJ _ _ _ _ k0]
        exact ⟨hM.1.st (fun k hk => o72 k (by omega) (by omega) (by omega)) (fun a a1 a2 => oI a (by omega)), ⟨rfl, rfl, fun k hk => absurd hk (Nat.not_lt_zero k)⟩, hM.2.2.1.st (fun k hk => o72 k (by omega) (by omega) (by omega)) (fun a a1 a2 _ _ _ => oI a (by omega)), hM.2.2.2.st (o72 44 (by omega) (by omega) (by omega)) (fun a a1 a2 => oI a (by omega))⟩
    · have h6 : qQ A.2.2.1 < 6 := by omega
      cases hq : kQt (tP A.2.1) n (o n) with
      | inl z =>
        obtain ⟨kd, pl⟩ := z
        refine ⟨(A.1, (0, tP A.2.1, nI pl), A.2.2), 0, 0, nI kd - 10, ⟨w.1, wt _, w.2.2⟩, fun z => absurd rfl z, fun g h R hf hb hC e0 e1 => ?_, fun g h R hf hM e3 => ?_⟩
        · refine (cx g h R hf (by omega) hC (fun z => absurd c1 z) (fun n' _ _ z => absurd z c2) (fun n' kd' pl' s' w' en hn' _ hq' i3 i4 => ?_) (fun n' nds s' w' sc en hn' _ hq' => ?_)).le (by decide)
          · rw [un n' en hn', hq] at hq'
            obtain ⟨rfl, rfl⟩ := Prod.mk.inj (Sum.inl.inj hq')
            rw [un n' en hn']
            refine e1 rfl _ (kcs_f (kb_f hf)) (hC.rt hf.1 rfl (fun _ => rfl) (fun a ha => ?_) (fun a ha => ?_) ?_ ?_) ⟨Nat.le_add_right _ _, Nat.le_add_right _ _, fun a a1 a2 => ?_⟩
            · rw [kcs_PN (by omega)]; rfl
            · rw [kcs_IN (by omega), kb_IN (by omega)]
            · rw [kcs_N rfl]; rfl
            · rw [kcs_I rfl]; exact i4
            · rw [kcs_IN (by omega), kb_IN (by omega)]
          · rw [un n' en hn', hq] at hq'; cases hq'
        · refine (cm g h R hf hM (fun z => absurd c1 z) (fun _ z => absurd z c2) (fun n' kd' pl' s' en hn' _ hq' hfr => ?_) (fun n' nds s' x en hn' _ hq' => ?_)).le (by decide)
          · rw [un n' en hn', hq] at hq'
            obtain ⟨rfl, rfl⟩ := Prod.mk.inj (Sum.inl.inj hq')
            rw [un n' en hn'] at hfr ⊢
            obtain ⟨y1, y2, y3, -⟩ := hM.rt (v := nI pl) w hfr _ (Or.inr rfl)
            exact e3 _ _ (kms_f (kf_m (kf_m (kf_m (kf_m (kf_m hf)))))) y1 y2 y3 (fun _ => rfl)
          · rw [un n' en hn', hq] at hq'; cases hq'
      | inr nds =>
        obtain ⟨hl1, hl2, hNl⟩ := (kQt_P (ho' n hn).2.2).2 nds hq
        refine ⟨(A.1, (0, tP A.2.1, -1), qQu A.2.2.1 nds, A.2.2.2), 0, 0, nI (qQ A.2.2.1), ⟨w.1, wt _, w.2.2.1.qu h6 ⟨hl1, hl2⟩ hNl, w.2.2.2⟩, fun z => absurd rfl z, fun g h R hf hb hC e0 e1 => ?_, fun g h R hf hM e3 => ?_⟩
        · refine (cx g h R hf (by omega) hC (fun z => absurd c1 z) (fun n' _ _ z => absurd z c2) (fun n' kd' pl' s' w' en hn' _ hq' i3 i4 => ?_) (fun n' nds' s' w' sc en hn' _ hq' i3 i4 i5 i6 i7 => ?_)).le (by decide)
          · rw [un n' en hn', hq] at hq'; cases hq'
          · rw [un n' en hn', hq] at hq'
            obtain rfl := Sum.inr.inj hq'
            rw [un n' en hn'] at i6 ⊢
            have hf1 : kf g (kcs (kb_h h n) s' w') := kcs_f (kb_f hf)
            have fI : ∀ a, a < 9 ∨ 62 < a → ka_I (kcs (kb_h h n) s' w') a = ka_I h a := fun a ha => by rw [kcs_IN ha, kb_IN (by omega)]
            obtain ⟨q1, q2, q3, sb, qb, st, q4⟩ := hC.rt (v := -1) (h' := kcs (kb_h h n) s' w') hf.1 rfl (fun _ => rfl) (fun a ha => by rw [kcs_PN (by omega)]; rfl) fI (by rw [kcs_N rfl]; rfl) (by rw [kcs_I rfl]; exact i4)
            have i11 : ka_I (kcs (kb_h h n) s' w') 11 4 = nI nds.length := by rw [kcs_I rfl]; exact i5
            have icn : ∀ j x, nds[j]? = some x → kCn (ka_I (kcs (kb_h h n) s' w')) (fun a => ka_P (kcs (kb_h h n) s' w') a 0) j x sc := fun j x hx => by
              have hj := kls_lt hx
              obtain ⟨y1, y2, y3, y4, y5, y6, y7⟩ := i7 j x hx
              unfold kCn
              rw [show ka_I (kcs (kb_h h n) s' w') (39 + 2 * j) = s' (39 + 2 * j) from funext fun k => kcs_I' (by omega) (by omega) k, show ka_I (kcs (kb_h h n) s' w') (40 + 2 * j) = s' (40 + 2 * j) from funext fun k => kcs_I' (by omega) (by omega) k, show ka_I (kcs (kb_h h n) s' w') 38 = s' 38 from funext fun k => kcs_I' (by omega) (by omega) k]
              refine ⟨?_, y2, y3, y4, y5, y6, y7⟩
              show cond (pq (39 + 2 * j) 0) (w' (39 + 2 * j)) _ = _
              rw [show pq (39 + 2 * j) 0 = true by
                unfold pq
                rw [Nat.ble_eq_true_of_le (by omega : 39 ≤ 39 + 2 * j), Nat.ble_eq_true_of_le (by omega : 39 + 2 * j ≤ 61)]
                rfl]
              exact y1
            have fc : ∀ a, 72 ≤ a → a ≤ 101 → ka_I (kcs (kb_h h n) s' w') a = ka_I h a := fun a a1 a2 => fI a (by omega)
            have n1 : (kcs (kb_h h n) s' w').1 = h.1 := rfl
            have n2 : (kcs (kb_h h n) s' w').2.1 = h.2.1 := rfl
            generalize kcs (kb_h h n) s' w' = H at hf1 q1 q2 q3 q4 i11 icn fc n1 n2
            have h103 := hf1.1
            have hK1 : (ka_K H 1).1 = 8 := kK hf1 rfl rfl
            have i9 : ka_I H 1 9 = nI (qQ A.2.2.1) := q4.1.2.1
            refine (kd_seg (fun p => Nat.beq p 78) 40 ⟨hK1, ⟨hK1, ⟨hK1, ?_⟩⟩⟩ : kd_ex g (XC 0 + 1) 89 R 65 [.ref 1, .int (nI n)] [] H)
            rw [i9]
            refine kc_shelved (d := XC 0 + 1 - 7) hf1 (by omega) q4 w.2.2.1 h6 ⟨hl1, hl2⟩ hNl i11 (by omega) icn (fun h' sb' qc => ⟨qc.1.1, ?_⟩)
            have hfS := qc.1.1
            have hn5 : h'.1 = H.1 + 4 + 5 * ((kSv nds (qN A.2.2.1) (qKy A.2.2.1) (qLv A.2.2.1) nds.length).1 - qN A.2.2.1) := qc.1.2.1
            have hs5 : h'.2.1 ≤ H.2.1 + 41 + 742 * ((kSv nds (qN A.2.2.1) (qKy A.2.2.1) (qLv A.2.2.1) nds.length).1 - qN A.2.2.1) := qc.1.2.2.1
            have hNn := kSv_N (nds := nds) (N0 := qN A.2.2.1) (ky0 := qKy A.2.2.1) (lv := qLv A.2.2.1) nds.length (Nat.le_refl _)
            have qn := q4.qu w.2.2.1 h6 h103 hNl qc
            have hold : ∀ s, s < qN A.2.2.1 → 103 ≤ sb s ∧ sb s + 5 ≤ H.1 := fun s hs => (q4.2.2.2.2.1 s hs).1.1
            have fr : ∀ a, a < 103 → a ≠ 1 → ka_I h' a = ka_I H a := fun a a1 a2 => qc.2.1.2.1 a (by omega) a2 (fun s hs => by have := hold s hs; omega)
            have hKq : (ka_K h' H.1).1 = 4 := by rw [qc.2.2.2.2.2.1.2.2.1]
            have k69 : (ka_K h' 69).1 = 35 := kK hfS rfl rfl
            have z69 : (ka_K h' 69).2 = 6 := kZ hfS rfl rfl
            have hfP : kf g (ka_sP h' 69 (qQ A.2.2.1) H.1) := by
              refine ⟨hfS.1, hfS.2.1, fun a f ha hc => ?_, fun i => ⟨(hfS.2.2.2 i).1, fun j => ⟨((hfS.2.2.2 i).2 j).1, ?_⟩⟩⟩
              · rw [← hfS.2.2.1 a f ha hc]
                by_cases z : a = 69
                · subst z
                  cases hc
                · exact ka_uN _ _ _ _ z f
              · rw [← ((hfS.2.2.2 i).2 j).2]
                exact ka_uN _ _ _ _ (by omega) j
            have i9' : ka_I (ka_sP h' 69 (qQ A.2.2.1) H.1) 1 9 = nI (qQ A.2.2.1) := (qc.2.1.2.2.1 9 (by decide)).trans i9
            refine ⟨⟨Or.inr (Or.inl ⟨k69, hKq⟩), ?_⟩, ?_, ?_⟩
            · rw [show (ka_K h' (kq_p H 1 5)).2 = 6 from z69]; exact nI_in (N := 6) h6 (by omega)
            · intro _; rw [nI_clamp (by omega)]; rfl
            · rw [nI_clamp (by omega)]
              refine (?_ : kd_ex g (XC 0 + 1) 89 R 78 [.ref 1, .int (nI n)] [] (ka_sP h' 69 (qQ A.2.2.1) H.1))
              refine kd_seg kp_no 20 ⟨kK hfP rfl rfl, ⟨kK hfP rfl rfl, ?_⟩⟩
              rw [i9', show nI (qQ A.2.2.1) + Int32.ofInt 1 = nI (qQ A.2.2.1 + 1) from (nI_succ _).symm]
              have hfF : kf g (ka_sI (ka_sP h' 69 (qQ A.2.2.1) H.1) 1 9 (nI (qQ A.2.2.1 + 1))) := kf_w hfP 1 rfl rfl
              refine ⟨kK hfF rfl rfl, ⟨trivial, ?_⟩⟩
              rw [ka_IS, show nI (qQ A.2.2.1 + 1) - Int32.ofInt 1 = nI (qQ A.2.2.1) from nI_m1' (k := qQ A.2.2.1 + 1) (by omega)]
              have oF : ∀ a, a ≠ 1 → ka_I (ka_sI (ka_sP h' 69 (qQ A.2.2.1) H.1) 1 9 (nI (qQ A.2.2.1 + 1))) a = ka_I h' a := fun a ha => kI_o (ka_sP h' 69 (qQ A.2.2.1) H.1) _ _ ha
              refine e1 rfl _ hfF ⟨q1.st (fun a a1 a2 => (oF a (by omega)).trans (fr a (by omega) (by omega))), q2.st (fun a a1 a2 => (oF a (by omega)).trans (fr a (by omega) (by omega))), q3.st ?_ ((oF 70 (by omega)).trans (fr 70 (by omega) (by omega))), _, _, _, qn⟩ ⟨?_, ?_, fun a a1 a2 => ((oF a (by omega)).trans (fr a (by omega) (by omega))).trans (fc a a1 a2)⟩
              · exact (ka_IJ (ka_sP h' 69 (qQ A.2.2.1) H.1) _ _ _ (by decide)).trans (qc.2.1.2.2.1 10 (by decide))
              · show h'.1 ≤ _
                omega
              · show h'.2.1 ≤ _
                omega
        · refine (cm g h R hf hM (fun z => absurd c1 z) (fun _ z => absurd z c2) (fun n' kd' pl' s' en hn' _ hq' hfr => ?_) (fun n' nds' s' x en hn' _ hq' hfr i79 imn => ?_)).le (by decide)
          · rw [un n' en hn', hq] at hq'; cases hq'
          · rw [un n' en hn', hq] at hq'
            obtain rfl := Sum.inr.inj hq'
            rw [un n' en hn'] at hfr ⊢
            obtain ⟨y1, y2, y3, y4⟩ := hM.rt (v := -1) (t79 := 0) w hfr _ (Or.inl rfl)
            have hf1 : kf g (kms (ka_sI (kq_h h n) 72 28 (-1)) s') := kms_f (kf_m (kf_m (kf_m (kf_m (kf_m hf)))))
            have j79 : ka_I (kms (ka_sI (kq_h h n) 72 28 (-1)) s') 79 (qQ A.2.2.1) = nI nds.length := by rw [kms_79 (by omega)]; exact i79
            have jmn : ∀ j x, nds[j]? = some x → kMn (ka_I (kms (ka_sI (kq_h h n) 72 28 (-1)) s')) (12 * qQ A.2.2.1 + j) x := fun j x hx => by
              obtain ⟨z1, z2, z3, z4, z5, z6, z7, z8⟩ := imn j x hx
              refine ⟨?_, ?_, ?_, ?_, ?_, ?_, fun i hi => ?_, fun i hi => ?_⟩
              · rw [kms_79 (by omega)]; exact z1
              · rw [kms_79 (by omega)]; exact z2
              · rw [kms_79 (by omega)]; exact z3
              · rw [kms_79 (by omega)]; exact z4
              · rw [kms_79 (by omega)]; exact z5
              · rw [kms_79 (by omega)]; exact z6
              · rw [kms_79 (by omega)]; exact z7 i hi
              · rw [kms_79 (by omega)]; exact z8 i hi
            generalize kms (ka_sI (kq_h h n) 72 28 (-1)) s' = H at hf1 y1 y2 y3 y4 j79 jmn
            refine kSJ_go (d := XM 0 - 3) (lv := qLv A.2.2.1) hf1 h6 hl2 w.2.2.1.2.1 y4 j79 y1.2.2.1.2.1 (fun s hs => (y1.2.2.1.2.2.2.2 s hs).2.1) (fun s hs => y1.2.2.1.sB w.2.2.1 hs) (fun j x hx => ⟨jmn j x hx, ?_⟩) (fun H' qj => ?_)
            · obtain ⟨n1, n2, n3, n4, n5, n6, n7, n8, n9, n10, n11⟩ := (hNl j x hx).1
              rw [Nat.zero_add] at n3 n4
              refine ⟨n1, n2, n3, n4, fun cc hc => ?_, n10⟩
              by_cases z : x.1 = 13
              · exact (n8 z).2 cc hc
              · rw [(n9 z).1] at hc
                cases hc
            · have qm := y1.2.2.1.qu w.2.2.1 h6 hl2 hNl j79 jmn qj
              have k1 := qj.1.1
              have k2 := qj.1.2.1
              have k4 := qj.1.2.2.2.1
              have k5 := qj.1.2.2.2.2.1
              have oI : ∀ a, a ≠ 72 → ka_I (ka_sI H' 72 9 (nI (qQ A.2.2.1 + 1))) a = ka_I H' a := fun a ha => kI_o _ _ _ ha
              have fI : ∀ a, 72 < a → a ≠ 78 → a ≠ 84 → a ≠ 92 → a ≠ 93 → a ≠ 94 → ka_I (ka_sI H' 72 9 (nI (qQ A.2.2.1 + 1))) a = ka_I H a := fun a a1 a2 a3 a4 a5 a6 => by rw [oI a (by omega), k5 a a1 a3 a4 a5 a6, kI_o _ _ _ a2]
              have f72 : ∀ k, k ≠ 9 → k ≠ 34 → ka_I (ka_sI H' 72 9 (nI (qQ A.2.2.1 + 1))) 72 k = ka_I H 72 k := fun k h9 h34 => by rw [ka_IJ _ _ _ _ h9, k4 k h34, kI_o _ _ _ (by decide)]
              refine e3 _ _ (kf_m k1) ⟨y1.1.st (fun k hk => f72 k (by omega) (by omega)) (fun a a1 a2 => fI a (by omega) (by omega) (by omega) (by omega) (by omega) (by omega)), y1.2.1.st (fun k hk => f72 k (by omega) (by omega)) (fI 89 (by omega) (by omega) (by omega) (by omega) (by omega) (by omega)), qm, y1.2.2.2.st (f72 44 (by omega) (by omega)) (fun a a1 a2 => fI a (by omega) (by omega) (by omega) (by omega) (by omega) (by omega))⟩ ((y2.tr ((kFm.rfl'.sI (by omega)).tr k2)).sI (by omega)) ((f72 0 (by decide) (by decide)).trans y3) (fun _ => rfl)
  · refine ⟨A, 1, 0, 0, w, fun _ => ⟨rfl, rfl, rfl⟩, fun g h R hf hb hC e0 e1 => ?_, fun g h R hf hM e3 => ?_⟩
    · exact (cx g h R hf (by omega) hC (fun _ => e0 (by decide)) (fun n' en hn' => absurd (by rw [en]; exact ⟨Int32.not_lt.mp (nI_n0 (by omega)), Int32.not_lt.mp (nI_nlt (by omega) (by omega))⟩) c1) (fun n' kd' pl' s' w' en hn' => absurd (by rw [en]; exact ⟨Int32.not_lt.mp (nI_n0 (by omega)), Int32.not_lt.mp (nI_nlt (by omega) (by omega))⟩) c1) (fun n' nds' s' w' sc en hn' => absurd (by rw [en]; exact ⟨Int32.not_lt.mp (nI_n0 (by omega)), Int32.not_lt.mp (nI_nlt (by omega) (by omega))⟩) c1)).le (by decide)
    · exact (cm g h R hf hM (fun _ => e3 _ _ (kf_m (kf_m hf)) hM.mt kFm.mt rfl (fun z => by cases z)) (fun z => absurd z c1) (fun n' kd' pl' s' en hn' => absurd (by rw [en]; exact ⟨Int32.not_lt.mp (nI_n0 (by omega)), Int32.not_lt.mp (nI_nlt (by omega) (by omega))⟩) c1) (fun n' nds' s' x en hn' => absurd (by rw [en]; exact ⟨Int32.not_lt.mp (nI_n0 (by omega)), Int32.not_lt.mp (nI_nlt (by omega) (by omega))⟩) c1)).le (by decide)
end QN
