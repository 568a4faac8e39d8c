/-! ===== fold ===== -/
def qMn (L : kAl) (Q : kAq) (t : Nat) : Nat → Nat
  | 0 => t
  | s + 1 => if qLv Q s = true ∧ qF L Q s < qMn L Q t s then qF L Q s else qMn L Q t s
def rE (r : kAr) (k : Nat) : Nat := (rH r k).toNatClampNeg
def rMn (r : kAr) (t : Nat) : Nat → Nat
  | 0 => t
  | k + 1 => if rG r k = false ∧ rE r k < rMn r t k then rE r k else rMn r t k
theorem qMn_le {L : kAl} {Q : kAq} {t : Nat} : ∀ s, qMn L Q t s ≤ t
  | 0 => Nat.le_refl _
  | s + 1 => by
    have := qMn_le (L := L) (Q := Q) (t := t) s
    show (if qLv Q s = true ∧ qF L Q s < qMn L Q t s then qF L Q s else qMn L Q t s) ≤ t
    split <;> omega
theorem rMn_le {r : kAr} {t : Nat} : ∀ s, rMn r t s ≤ t
  | 0 => Nat.le_refl _
  | s + 1 => by
    have := rMn_le (r := r) (t := t) s
    show (if rG r s = false ∧ rE r s < rMn r t s then rE r s else rMn r t s) ≤ t
    split <;> omega
theorem rE_eq {r : kAr} (w : kWr r) {k : Nat} (hk : k < rN r) : rH r k = nI (rE r k) ∧ rE r k ≤ 100 := by
  obtain ⟨e, he, ee⟩ := w.2 k hk
  unfold rE
  rw [ee, nI_clamp (by omega)]
  exact ⟨rfl, he⟩
def qSo (Q : kAq) (v : Nat) : kAq := (qQ Q, qNd Q, qSh Q, qLf Q, qN Q, qKy Q, qFr Q, v)
section FO
variable {A : kA} {v : Int32}
theorem ko_fold (w : kWA A) (v : Int32) : kOx (kmp1 0) 200 99 218 [.int v] A := by
  have w8 := w.2.2.2.1
  have w6 := w.2.2.1.1
  have hN := w.2.2.1.2.1
  have hc := w.1.2.1
  have hF := w.2.2.1.F hc
  have hfo := w.2.2.1.2.2.1
  by_cases c : 0 ≤ v ∧ v ≤ 100
  · obtain ⟨e, he, rfl⟩ := i32_le (v := v) (N := 100) c (by omega)
    generalize ht0 : (if e < lC A.1 then e else lC A.1) = t0
    have ht0c : t0 ≤ lC A.1 := by rw [← ht0]; split <;> omega
    generalize ht1 : qMn A.1 A.2.2.1 t0 (qN A.2.2.1) = t1
    generalize ht2 : rMn A.2.2.2 t1 (rN A.2.2.2) = t2
    have h1c : t1 ≤ lC A.1 := by rw [← ht1]; have := qMn_le (L := A.1) (Q := A.2.2.1) (t := t0) (qN A.2.2.1); omega
    have h2c : t2 ≤ lC A.1 := by rw [← ht2]; have := rMn_le (r := A.2.2.2) (t := t1) (rN A.2.2.2); omega
    refine ⟨(A.1, A.2.1, qSo A.2.2.1 (if qFo A.2.2.1 < t2 then t2 else qFo A.2.2.1), A.2.2.2), 0, 0, nI (if qFo A.2.2.1 < t2 then t2 else qFo A.2.2.1), ⟨w.1, w.2.1, ⟨w.2.2.1.1, w.2.2.1.2.1, by show (if qFo A.2.2.1 < t2 then t2 else qFo A.2.2.1) ≤ _; split <;> omega, w.2.2.1.2.2.2⟩, w.2.2.2⟩, fun z => absurd rfl z, fun g h R hf hb hC e0 e1 => ?_, fun g h R hf hM e3 => ?_⟩
    · obtain ⟨q1, q2, q3, sb, qb, st, q4⟩ := hC
      have hC : kcA A h := ⟨q1, q2, q3, sb, qb, st, q4⟩
      have hK1 : (ka_K h 1).1 = 8 := kK hf rfl rfl
      have hK68 : (ka_K h (kq_p h 1 4)).1 = 34 := kK hf (a := 68) rfl rfl
      have hZ68 : (ka_K h (kq_p h 1 4)).2 = 72 := kZ hf (a := 68) rfl rfl
      have hK70 : (ka_K h (kq_p h 1 6)).1 = 30 := kK hf (a := 70) rfl rfl
      have hZ70 : (ka_K h (kq_p h 1 6)).2 = 8 := kZ hf (a := 70) rfl rfl
      have fin : ∀ z3 z4, kd_ex g 199 99 R 119 [.ref 1, .int (nI e), .int (nI t2), z3, z4] [] h := by
        intro z3 z4
        refine kd_seg kp_no 20 ⟨hK1, ?_⟩
        rw [q4.1.2.2]
        refine kq_ci (kc_max hf) hf ⟨hK1, ⟨hK1, ⟨trivial, ?_⟩⟩⟩
        have hmx : (if nI (qFo A.2.2.1) < nI t2 then nI t2 else nI (qFo A.2.2.1)) = nI (if qFo A.2.2.1 < t2 then t2 else qFo A.2.2.1) := by
          by_cases z : qFo A.2.2.1 < t2
          · rw [if_pos z, if_pos (nI_lt z (by omega))]
          · rw [if_neg z, if_neg (nI_nlt (by omega) (by omega))]
        rw [hmx, ka_IS]
        have oth : ∀ a, a ≠ 1 → ka_I (ka_sI h 1 11 (nI (if qFo A.2.2.1 < t2 then t2 else qFo A.2.2.1))) a = ka_I h a := fun a ha => kI_o _ _ _ ha
        refine e1 rfl _ (kf_w hf 1 rfl rfl) ⟨q1.st (fun a a1 a2 => oth a (by omega)), q2.st (fun a a1 a2 => oth a (by omega)), q3.st (ka_IJ _ _ _ _ (by decide)) (oth 70 (by decide)), sb, qb, st, ?_⟩ (kFc.w (by omega))
        have q5 := q4.st (L' := A.1) (h' := ka_sI h 1 11 (ka_I h 1 11)) hf.1 (Nat.le_refl _) (fun _ _ => rfl) (fun _ _ => rfl) (fun a a1 _ => kI_o _ _ _ (by omega)) (fun k hk => by
          by_cases z : k = 11
          · rw [z, ka_IS]
          · rw [ka_IJ _ _ _ _ z]) (kI_o _ _ _ (by decide)) (Nat.le_refl _) (fun _ _ => rfl)
        obtain ⟨w1, w2, w3, w4, w5, w6', w7, w8'⟩ := q4
        refine ⟨⟨(ka_IJ _ _ _ _ (by decide)).trans w1.1, (ka_IJ _ _ _ _ (by decide)).trans w1.2.1, ka_IS _ _ _ _⟩, fun r hr => (congrFun (oth 64 (by decide)) r).trans (w2 r hr), w3, w4, fun s hs => (w5 s hs).st (Nat.le_refl _) (fun _ _ => rfl) (fun _ _ _ => rfl) (fun a a1 _ => oth a (by omega)) (Nat.le_refl _) (fun _ _ => rfl), w6', fun q hq => (w7 q hq).st (Nat.le_refl _) (fun _ _ => rfl) (fun _ _ _ => rfl) (fun a a1 _ => oth a (by omega)), w8'⟩
      have loop2 : ∀ m k z4, k + m = rN A.2.2.2 → kd_ex g 199 99 R 75 [.ref 1, .int (nI e), .int (nI (rMn A.2.2.2 t1 k)), .int (nI k), z4] [] h := by
        intro m
        induction m with
        | zero =>
          intro k z4 hk
          refine kd_seg (fun p => Nat.beq p 75 || Nat.beq p 119) 40 ⟨hK1, ?_⟩
          rw [q3.1]
          refine ⟨fun _ => ?_, fun y => absurd y (nI_nlt (by omega) (by omega))⟩
          rw [show k = rN A.2.2.2 by omega, ht2]
          exact fin _ _
        | succ m ih =>
          intro k z4 hk
          have hkr : k < rN A.2.2.2 := by omega
          obtain ⟨r1, r2⟩ := rE_eq w.2.2.2 hkr
          have hle := rMn_le (r := A.2.2.2) (t := t1) k
          have h70 : ka_I h (kq_p h 1 6) k = if rG A.2.2.2 k = true then -1 else rH A.2.2.2 k := q3.2 k hkr
          have nx := ih (k + 1) z4 (by omega)
          rw [nI_succ, show rMn A.2.2.2 t1 (k + 1) = if rG A.2.2.2 k = false ∧ rE A.2.2.2 k < rMn A.2.2.2 t1 k then rE A.2.2.2 k else rMn A.2.2.2 t1 k from rfl] at nx
          refine kd_seg (fun p => Nat.beq p 75 || Nat.beq p 119) 40 ⟨hK1, ?_⟩
          rw [q3.1]
          refine ⟨fun y => absurd (nI_lt (by omega) (by omega)) y, fun _ => ⟨hK1, ⟨by rw [hK70]; decide, ?_⟩⟩⟩
          rw [hZ70]
          refine ⟨fun y => absurd (nI_lt (b := 8) (by omega) (by omega)) y, fun _ => ⟨hK1, ⟨⟨Or.inl hK70, by rw [hZ70]; exact nI_in (N := 8) (by omega) (by omega)⟩, ?_⟩⟩⟩
          rw [nI_clamp (by omega), h70]
          cases hg : rG A.2.2.2 k with
          | true =>
            rw [if_pos rfl]
            rw [hg, if_neg (fun y => by cases y.1)] at nx
            exact ⟨fun _ => nx, fun y => absurd rfl y⟩
          | false =>
            rw [if_neg (by decide), r1]
            refine ⟨fun y => absurd y (nI_ne_m1 (by omega)), fun _ => ⟨hK1, ⟨⟨Or.inl hK70, by rw [hZ70]; exact nI_in (N := 8) (by omega) (by omega)⟩, ?_⟩⟩⟩
            rw [nI_clamp (by omega), h70, hg, if_neg (by decide), r1]
            refine kq_ci (kc_min hf) hf ?_
            rw [hg] at nx
            by_cases z : rE A.2.2.2 k < rMn A.2.2.2 t1 k
            · rw [if_pos (nI_lt z (by omega))]
              rw [if_pos ⟨rfl, z⟩] at nx
              exact nx
            · rw [if_neg (nI_nlt (by omega) (by omega))]
              rw [if_neg (fun y => z y.2)] at nx
              exact nx
      have loop1 : ∀ m s z4, s + m = qN A.2.2.1 → kd_ex g 199 99 R 18 [.ref 1, .int (nI e), .int (nI (qMn A.1 A.2.2.1 t0 s)), .int (nI s), z4] [] h := by
        intro m
        induction m with
        | zero =>
          intro s z4 hs
          refine kd_seg (fun p => Nat.beq p 18 || Nat.beq p 75) 40 ⟨hK1, ?_⟩
          rw [q4.1.1]
          refine ⟨fun _ => ?_, fun y => absurd y (nI_nlt (by omega) (by omega))⟩
          rw [show s = qN A.2.2.1 by omega, ht1]
          exact loop2 _ 0 _ (Nat.zero_add _)
        | succ m ih =>
          intro s z4 hs
          have hsN : s < qN A.2.2.1 := by omega
          have cs := q4.2.2.2.2.1 s hsN
          have h13 := (w.2.2.1.2.2.2.1 s hsN).1.1.1
          have hle := qMn_le (L := A.1) (Q := A.2.2.1) (t := t0) s
          have hFs := hF s hsN
          have h68 : ka_P h (kq_p h 1 4) s = sb s := (q4.2.2.2.1 s (by omega)).trans (if_pos hsN)
          have nx := fun z4 => ih (s + 1) z4 (by omega)
          rw [nI_succ, show qMn A.1 A.2.2.1 t0 (s + 1) = if qLv A.2.2.1 s = true ∧ qF A.1 A.2.2.1 s < qMn A.1 A.2.2.1 t0 s then qF A.1 A.2.2.1 s else qMn A.1 A.2.2.1 t0 s from rfl] at nx
          have hc6 : qC A.2.2.1 s ≤ 6 := by
            have := kNum_le (qU A.2.2.1 s) (qQ A.2.2.1)
            unfold qC
            omega
          refine kd_seg (fun p => Nat.beq p 18 || Nat.beq p 75) 60 ⟨hK1, ?_⟩
          rw [q4.1.1]
          refine ⟨fun y => absurd (nI_lt (by omega) (by omega)) y, fun _ => ⟨hK1, ⟨by rw [hK68]; decide, ?_⟩⟩⟩
          rw [hZ68]
          refine ⟨fun y => absurd (nI_lt (b := 72) (by omega) (by omega)) y, fun _ => ⟨hK1, ⟨⟨by rw [hK68]; decide, by rw [hK68]; decide, by rw [hZ68]; exact nI_in (N := 72) (by omega) (by omega)⟩, ?_⟩⟩⟩
          rw [nI_clamp (by omega), h68]
          refine ⟨fun y => absurd y cs.ne, fun _ => ⟨cs.K, ?_⟩⟩
          rw [cs.2.2.1]
          refine ⟨fun y => ?_, fun y => ⟨hK1, ?_⟩⟩
          · have hl : ¬ qLv A.2.2.1 s = true := fun t => y (nI_lt (a := 0) (of_decide_eq_true t) (by omega))
            have := nx (.ref (sb s))
            rw [if_neg (fun t => hl t.1)] at this
            exact this
          · have hl : qLv A.2.2.1 s = true := decide_eq_true ((nI_ltI (a := 0) (by omega) (by omega)).mp y)
            refine kq_ci (kc_frontOf hf q1 cs h13) hf ?_
            refine kq_ci (kc_min hf) hf ?_
            have := nx (.ref (sb s))
            by_cases z : qF A.1 A.2.2.1 s < qMn A.1 A.2.2.1 t0 s
            · rw [if_pos (nI_lt z (by omega))]
              rw [if_pos ⟨hl, z⟩] at this
              exact this
            · rw [if_neg (nI_nlt (by omega) (by omega))]
              rw [if_neg (fun t => z t.2)] at this
              exact this
      refine kd_in (d := 199) hf rfl rfl rfl (kd_seg (fun p => Nat.beq p 18) 30 ?_)
      refine kc_reqNumber hf (by omega) (fun z => absurd c z) (fun _ => ⟨hf, ⟨hK1, ⟨kK hf (a := 2) rfl rfl, ?_⟩⟩⟩)
      rw [show ka_I h (kq_p h 1 0) 7 = nI (lC A.1) from q1.2.1]
      refine kq_ci (kc_min hf) hf ?_
      have hmn : (if nI (lC A.1) < nI e then nI (lC A.1) else nI e) = nI t0 := by
        rw [← ht0]
        rcases Nat.lt_or_ge (lC A.1) e with z | z
        · rw [if_pos (nI_lt z (by omega)), if_neg (by omega)]
        · rw [if_neg (nI_nlt z (by omega))]
          by_cases y : e < lC A.1
          · rw [if_pos y]
          · rw [if_neg y, show e = lC A.1 by omega]
      rw [hmn]
      exact loop1 _ 0 _ (Nat.zero_add _)
    · have hf0 : kf g (km_0 h) := kf_m hf
      have hM0 : kmA A (km_0 h) := hM.m0
      have g0 : kFm h (km_0 h) := kFm.m0
      have t00 : ka_I (km_0 h) 72 0 = 0 := rfl
      refine kq_in (d := 199) hf rfl rfl rfl (kq_seg (fun p => Nat.beq p 5) 10 ?_)
      refine (?_ : kq_ex g 199 218 R 5 [.ref 72, .int (nI e), .retAddr 0, .retAddr 0] [] (km_0 h))
      generalize km_0 h = H at hf0 hM0 g0 t00
      have i1 : ka_I H 72 1 = nI (lC A.1) := hM0.1.2.1
      have i34 : ka_I H 72 34 = nI (qN A.2.2.1) := hM0.2.2.1.2.1
      have i35 : ka_I H 72 35 = nI (qFo A.2.2.1) := hM0.2.2.1.2.2.1
      have i44 : ka_I H 72 44 = nI (rN A.2.2.2) := hM0.2.2.2.1
      have last : ∀ x : Int32, x = nI (if qFo A.2.2.1 < t2 then t2 else qFo A.2.2.1) → ∀ z3, kq_ex g 199 218 R 138 [.ref 72, .int (nI e), .int (nI t2), z3] [.int x, .ref 72] H := by
        intro x hx z3
        refine kq_seg kp_no 20 ⟨trivial, ?_⟩
        rw [hx]
        have oth : ∀ a, a ≠ 72 → ka_I (ka_sI H 72 35 (nI (if qFo A.2.2.1 < t2 then t2 else qFo A.2.2.1))) a = ka_I H a := fun a ha => kI_o _ _ _ ha
        have o72 : ∀ k, k ≠ 35 → ka_I (ka_sI H 72 35 (nI (if qFo A.2.2.1 < t2 then t2 else qFo A.2.2.1))) 72 k = ka_I H 72 k := fun k hk => ka_IJ _ _ _ _ hk
        obtain ⟨m1, m2, ⟨m3, m4, m5, m6, m7⟩, m8⟩ := hM0
        refine e3 _ _ (kf_m hf0) ⟨m1.st (fun k hk => o72 k (by omega)) (fun a a1 a2 => oth a (by omega)), m2.st (fun k hk => o72 k (by omega)) (oth 89 (by decide)), ⟨(o72 9 (by decide)).trans m3, (o72 34 (by decide)).trans m4, ka_IS _ _ _ _, fun q hq => ?_, fun s hs => ?_⟩, m8.st (o72 44 (by decide)) (fun a a1 a2 => oth a (by omega))⟩ (g0.sI (by omega)) ((o72 0 (by decide)).trans t00) (fun _ => ka_IS _ _ _ _)
        · rw [oth 78 (by decide), oth 79 (by decide), oth 84 (by decide)]
          exact ⟨(m6 q hq).1, (m6 q hq).2.1, fun k x hx => ⟨kMn_eq ((m6 q hq).2.2 k x hx).1 (fun a a1 a2 a3 => oth a (by omega)), ((m6 q hq).2.2 k x hx).2⟩⟩
        · rw [oth 92 (by decide), oth 93 (by decide), oth 94 (by decide)]
          exact m7 s hs
      have fin : ∀ z3, kq_ex g 199 218 R 121 [.ref 72, .int (nI e), .int (nI t2), z3] [] H := by
        intro z3
        refine kq_seg (fun p => Nat.beq p 138) 20 ⟨fun y => ?_, fun y => ?_⟩
        · have y' : ¬ nI (qFo A.2.2.1) < nI t2 := by rw [← i35]; exact y
          have hz : ¬ qFo A.2.2.1 < t2 := fun t => y' (nI_lt t (by omega))
          refine last _ ?_ _
          rw [if_neg hz]
          exact i35
        · have y' : nI (qFo A.2.2.1) < nI t2 := by rw [← i35]; exact y
          have hz := (nI_ltI (by omega) (by omega)).mp y'
          refine last _ ?_ _
          rw [if_pos hz]
      have loop2 : ∀ m k, k + m = rN A.2.2.2 → kq_ex g 199 218 R 81 [.ref 72, .int (nI e), .int (nI (rMn A.2.2.2 t1 k)), .int (nI k)] [] H := by
        intro m
        induction m with
        | zero =>
          intro k hk
          refine kq_seg (fun p => Nat.beq p 81 || Nat.beq p 121) 40 ⟨fun _ => ?_, fun y => ?_⟩
          · rw [show k = rN A.2.2.2 by omega, ht2]
            exact fin _
          · have y' : nI k < nI (rN A.2.2.2) := by rw [← i44]; exact y
            exact absurd y' (nI_nlt (by omega) (by omega))
        | succ m ih =>
          intro k hk
          have hkr : k < rN A.2.2.2 := by omega
          obtain ⟨r1, r2⟩ := rE_eq w.2.2.2 hkr
          have hle := rMn_le (r := A.2.2.2) (t := t1) k
          obtain ⟨h99, h100⟩ := hM0.2.2.2.2.1 k hkr
          have nx := ih (k + 1) (by omega)
          rw [nI_succ, show rMn A.2.2.2 t1 (k + 1) = if rG A.2.2.2 k = false ∧ rE A.2.2.2 k < rMn A.2.2.2 t1 k then rE A.2.2.2 k else rMn A.2.2.2 t1 k from rfl] at nx
          refine kq_seg (fun p => Nat.beq p 81 || Nat.beq p 121) 40 ⟨fun y => absurd (show nI k < ka_I H 72 44 by rw [i44]; exact nI_lt hkr (by omega)) y, fun _ => ⟨nI_in (N := 8) (by omega) (by omega), ?_⟩⟩
          rw [nI_clamp (by omega), show ka_I H (kq_p H 72 46) k = _ from h100]
          cases hg : rG A.2.2.2 k with
          | true =>
            rw [hg, if_neg (fun y => by cases y.1)] at nx
            exact ⟨fun _ => nx, fun y => absurd y (by decide)⟩
          | false =>
            rw [hg] at nx
            refine ⟨fun y => absurd rfl y, fun _ => ⟨nI_in (N := 8) (by omega) (by omega), ?_⟩⟩
            rw [nI_clamp (by omega), show ka_I H (kq_p H 72 45) k = _ from h99, r1]
            refine ⟨fun y => ?_, fun y => ⟨nI_in (N := 8) (by omega) (by omega), ?_⟩⟩
            · rw [if_neg (fun t => y (nI_lt t.2 (by omega)))] at nx
              exact nx
            · rw [nI_clamp (by omega), show ka_I H (kq_p H 72 45) k = _ from h99, r1]
              rw [if_pos ⟨rfl, (nI_ltI (by omega) (by omega)).mp y⟩] at nx
              exact nx
      have loop1 : ∀ m s, s + m = qN A.2.2.1 → kq_ex g 199 218 R 41 [.ref 72, .int (nI e), .int (nI (qMn A.1 A.2.2.1 t0 s)), .int (nI s)] [] H := by
        intro m
        induction m with
        | zero =>
          intro s hs
          refine kq_seg (fun p => Nat.beq p 41 || Nat.beq p 81) 40 ⟨fun _ => ?_, fun y => ?_⟩
          · rw [show s = qN A.2.2.1 by omega, ht1]
            exact loop2 _ 0 (Nat.zero_add _)
          · have y' : nI s < nI (qN A.2.2.1) := by rw [← i34]; exact y
            exact absurd y' (nI_nlt (by omega) (by omega))
        | succ m ih =>
          intro s hs
          have hsN : s < qN A.2.2.1 := by omega
          have hle := qMn_le (L := A.1) (Q := A.2.2.1) (t := t0) s
          have hFs := hF s hsN
          have h94 := (hM0.2.2.1.2.2.2.2 s hsN).2.1
          have nx := ih (s + 1) (by omega)
          rw [nI_succ, show qMn A.1 A.2.2.1 t0 (s + 1) = if qLv A.2.2.1 s = true ∧ qF A.1 A.2.2.1 s < qMn A.1 A.2.2.1 t0 s then qF A.1 A.2.2.1 s else qMn A.1 A.2.2.1 t0 s from rfl] at nx
          refine kq_seg (fun p => Nat.beq p 41 || Nat.beq p 81) 40 ⟨fun y => absurd (show nI s < ka_I H 72 34 by rw [i34]; exact nI_lt hsN (by omega)) y, fun _ => ⟨nI_in (N := 72) (by omega) (by omega), ?_⟩⟩
          rw [nI_clamp (by omega), show ka_I H (kq_p H 72 38) s = _ from h94]
          cases hl : qLv A.2.2.1 s with
          | false =>
            rw [hl, if_neg (fun y => by cases y.1)] at nx
            exact ⟨fun _ => nx, fun y => absurd rfl y⟩
          | true =>
            rw [hl] at nx
            refine ⟨fun y => absurd y (by decide), fun _ => ?_⟩
            refine kq_ci (kc_mfrontOf hf0 hM0.1 hM0.2.2.1 w.2.2.1 hsN) hf0 ⟨fun y => ?_, fun y => ?_⟩
            · rw [if_neg (fun t => y (nI_lt t.2 (by omega)))] at nx
              exact nx
            · refine kq_ci (kc_mfrontOf hf0 hM0.1 hM0.2.2.1 w.2.2.1 hsN) hf0 ?_
              rw [if_pos ⟨rfl, (nI_ltI (by omega) (by omega)).mp y⟩] at nx
              exact nx
      have j38 : ∀ x : Int32, x = nI t0 → kq_ex g 199 218 R 38 [.ref 72, .int (nI e), .retAddr 0, .retAddr 0] [.int x] H := by
        intro x hx
        refine kq_seg (fun p => Nat.beq p 41) 10 ?_
        rw [hx]
        exact loop1 _ 0 (Nat.zero_add _)
      refine kq_seg (fun p => Nat.beq p 38) 30 ?_
      refine kq_ci kc_within hf0 ?_
      rw [kp_bT (show Int32.ofInt 0 ≤ nI e ∧ nI e ≤ Int32.ofInt 100 from c)]
      refine kq_ci (kc_may1 (code := 1) hf0 t00) hf0 ⟨fun _ => ⟨fun y => ?_, fun y => ?_⟩, fun y => absurd y (by decide)⟩
      · have y' : ¬ nI e < nI (lC A.1) := by rw [← i1]; exact y
        refine j38 _ ?_
        rw [← ht0, if_neg (fun t => y' (nI_lt t (by omega)))]
        exact i1
      · have y' : nI e < nI (lC A.1) := by rw [← i1]; exact y
        refine j38 _ ?_
        rw [← ht0, if_pos ((nI_ltI (by omega) (by omega)).mp y')]
  · refine ⟨A, 1, 0, 0, w, fun _ => ⟨rfl, rfl, rfl⟩, fun g h R hf hb hC e0 e1 => ?_, fun g h R hf hM e3 => ?_⟩
    · refine kd_in (d := 199) hf rfl rfl rfl (kd_seg (fun p => Nat.beq p 18) 30 ?_)
      exact kc_reqNumber hf (by omega) (fun z => ⟨kf_new hf (by omega), e0 (by decide)⟩) (fun z => absurd z c)
    · have hf0 : kf g (km_0 h) := kf_m hf
      refine kq_in (d := 199) hf rfl rfl rfl (kq_seg (fun p => Nat.beq p 22) 30 ?_)
      refine kq_ci kc_within hf0 ?_
      rw [kp_bF (show ¬ (Int32.ofInt 0 ≤ v ∧ v ≤ Int32.ofInt 100) from c)]
      exact kq_ci (kc_may0 (code := 1) hf0 rfl (by decide)) (kf_m hf0) ⟨fun y => absurd rfl y, fun _ => ⟨trivial, e3 _ _ (kf_m hf0) hM.mt kFm.mt rfl (fun z => by cases z)⟩⟩
end FO
