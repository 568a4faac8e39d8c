/-! ===== late, room, drop, close, rows, back, fault ===== -/
theorem nI_m1' {k : Nat} (h1 : 1 ≤ k) : nI k - 1 = nI (k - 1) := nI_sub (b := 1) h1
section L2
variable {A : kA} {h h' : ka_H} {L' : kAl}
theorem kcA.led (q : kcA A h) (h103 : 103 ≤ h.1) (hl : kcl L' h') (e1 : h'.1 = h.1) (eK : ∀ a, ka_K h' a = ka_K h a) (eP : ∀ a, ka_P h' a = ka_P h a) (eI : ∀ a, a < 2 ∨ 8 < a → ka_I h' a = ka_I h a) (hZ : lZ A.1 ≤ lZ L') (hT : ∀ m, m ≤ lZ A.1 → lT L' m = lT A.1 m) : kcA (L', A.2) h' := by
  obtain ⟨-, q2, q3, sb, qb, st, q4⟩ := q
  exact ⟨hl, q2.st (fun a b1 b2 => eI a (by omega)), q3.st (by rw [eI 1 (by omega)]) (eI 70 (by omega)), sb, qb, st, q4.st h103 (by omega) (fun a _ => eK a) (fun a _ => eP a) (fun a b1 _ => eI a (by omega)) (fun k _ => by rw [eI 1 (by omega)]) (eI 64 (by omega)) hZ hT⟩
theorem kmA.led (q : kmA A h) (hl : kml L' h') (e72 : ∀ k, k ≠ 0 → k ≠ 1 → k ≠ 2 → k ≠ 3 → ka_I h' 72 k = ka_I h 72 k) (eI : ∀ a, 77 < a → ka_I h' a = ka_I h a) : kmA (L', A.2) h' :=
  ⟨hl, q.2.1.st (fun k hk => e72 k (by omega) (by omega) (by omega) (by omega)) (eI 89 (by omega)), q.2.2.1.st (fun k hk => e72 k (by omega) (by omega) (by omega) (by omega)) (fun a b1 _ _ _ _ => eI a (by omega)), q.2.2.2.st (e72 44 (by omega) (by omega) (by omega) (by omega)) (fun a b1 _ => eI a (by omega))⟩
theorem kl_endN {L : kAl} (q : kcl L h) (w : kWl L) {e : Nat} (he : e ≤ 100) : kl_end h (lNn L) (lC L) (nI e) = nI (lE L e) := by
  have hc := w.2.1
  unfold kl_end lE
  rw [if_neg (nI_n0 (by omega))]
  by_cases c : e < lC L
  · rw [if_pos (nI_lt c (by omega)), if_pos c, nI_clamp (by omega)]
    exact q.2.2.2.2 e c
  · rw [if_neg (nI_nlt (by omega) (by omega)), if_neg c]
theorem kl_endM {n c : Nat} : kl_end h n c (-1) = nI 0 := if_pos (by decide)
theorem kl_endZ {L : kAl} (q : kcl L h) (w : kWl L) : kl_end h (lNn L) (lC L) (nI (lC L) - 1) = nI (lZ L) := by
  have hc := w.2.1
  by_cases c : lC L = 0
  · unfold lZ
    rw [if_pos c, c]
    exact kl_endM
  · rw [nI_m1' (by omega), kl_endN q w (by omega)]
    unfold lE lZ
    rw [if_pos (by omega), if_neg c]
theorem kl_endX {L : kAl} (q : kcl L h) (w : kWl L) (ed : Int32) : ∃ m, m ≤ lNn L ∧ kl_end h (lNn L) (lC L) ed = nI m := by
  have hc := w.2.1
  by_cases c : ed < 0
  · exact ⟨0, Nat.zero_le _, if_pos c⟩
  · by_cases c2 : ed < nI (lC L)
    · obtain ⟨k, hk, rfl⟩ := i32_nat c c2 (by omega)
      exact ⟨_, lE_le w k, kl_endN q w (by omega)⟩
    · exact ⟨_, Nat.le_refl _, by unfold kl_end; rw [if_neg c, if_neg c2]⟩
theorem kWq.le {c c' : Nat} {Q : kAq} (w : kWq c Q) (h : c ≤ c') : kWq c' Q := ⟨w.1, w.2.1, Nat.le_trans w.2.2.1 h, fun s hs => ⟨(w.2.2.2.1 s hs).1, Nat.le_trans (w.2.2.2.1 s hs).2 h⟩, w.2.2.2.2⟩
end L2
def lCl (L : kAl) : kAl := (lNn L, lC L + 1, lR L, lTb L, lCe L, lMo L, lEd L, lLa L, fun e => if e = lC L then lNn L else lEn L e)
theorem kWl.cl {L : kAl} (w : kWl L) (hc : lC L < 100) : kWl (lCl L) := by
  obtain ⟨w1, w2, w3, w4⟩ := w
  refine ⟨w1, hc, fun k hk => ?_, fun e he => ?_⟩
  · obtain ⟨y1, y2, ⟨e0, y3, y4, y5⟩, y6⟩ := w3 k hk
    refine ⟨y1, y2, ⟨e0, Nat.le_succ_of_le y3, y4, fun e' he' => ?_⟩, y6⟩
    show e0 ≤ e' ↔ k < (if e' = lC L then lNn L else lEn L e')
    have he2 : e' < lC L + 1 := he'
    have hk2 : k < lNn L := hk
    by_cases c : e' = lC L
    · rw [if_pos c]; omega
    · rw [if_neg c]; exact y5 e' (by omega)
  · show (if e = lC L then lNn L else lEn L e) ≤ lNn L
    have he2 : e < lC L + 1 := he
    by_cases c : e = lC L
    · rw [if_pos c]; omega
    · rw [if_neg c]; exact w4 e (by omega)
theorem lCl_Z {L : kAl} : lZ (lCl L) = lNn L := by
  unfold lZ
  show (if lC L + 1 = 0 then 0 else (if lC L + 1 - 1 = lC L then lNn L else lEn L (lC L + 1 - 1))) = _
  rw [if_neg (by omega), if_pos (by omega)]
theorem kWl.dr {L : kAl} (w : kWl L) {n : Nat} (h1 : lZ L ≤ n) (h2 : n ≤ lNn L) : kWl (n, L.2) := by
  refine ⟨Nat.le_trans h2 w.1, w.2.1, fun k hk => w.2.2.1 k (Nat.lt_of_lt_of_le hk h2), fun e he => ?_⟩
  have := lE_Z w he
  unfold lE at this
  rw [if_pos he] at this
  exact Nat.le_trans this h1
section L3
variable {A : kA}
theorem ko_late (w : kWA A) (t a b mo ed : Int32) : kOx kmp12 200 81 154 [.int t, .int a, .int b, .int mo, .int ed] A := by
  have hn := w.1.1
  have hc := w.1.2.1
  have eqv : (0 ≤ ed ∧ ed ≤ nI (lC A.1) - 1) ↔ (0 ≤ ed ∧ ed < nI (lC A.1)) := by
    have hle : ed ≤ nI (lC A.1) - 1 ↔ ed < nI (lC A.1) := by
      rw [Int32.le_iff_toInt_le, Int32.lt_iff_toInt_lt]
      by_cases z : lC A.1 = 0
      · rw [z]
        show ed.toInt ≤ -1 ↔ ed.toInt < 0
        omega
      · rw [nI_m1' (by omega), nI_toInt (by omega), nI_toInt (by omega)]
        omega
    rw [hle]
  by_cases c1 : kp_tab t
  · by_cases c2 : (kp_row a b ∧ kp_more mo) ∧ (0 ≤ ed ∧ ed < nI (lC A.1))
    · by_cases c4 : lR A.1 < nI (lC A.1) - ed
      · refine ⟨A, 0, 0, 0, w, fun z => absurd rfl z, fun g h R hf hb hC e0 e1 => ?_, fun g h R hf hM e => ?_⟩
        · exact kc_xlate (d := 198) hf (by omega) hC.1.1 hn (fun z => absurd c1 z) (fun _ z => absurd (by rw [hC.1.2.1]; exact c2) z) (fun _ _ _ _ => e1 rfl h hf hC kFc.rfl') (fun _ _ _ z => absurd (by rw [hC.1.2.1, hC.1.2.2.1]; exact c4) z) (fun _ _ _ z => absurd (by rw [hC.1.2.1, hC.1.2.2.1]; exact c4) z)
        · exact kc_late (d := 197) hf hM.1.1 hn (fun z => absurd c1 z) (fun _ z => absurd (by rw [hM.1.2.1]; exact ⟨c2.1, eqv.mpr c2.2⟩) z) (fun _ _ _ _ => e _ _ (kf_m hf) hM.m0 kFm.m0 rfl (fun _ => rfl)) (fun _ _ _ z => absurd (by rw [hM.1.2.1, hM.1.2.2.1]; exact c4) z) (fun _ _ _ z => absurd (by rw [hM.1.2.1, hM.1.2.2.1]; exact c4) z)
      · by_cases c3 : lNn A.1 = 400
        · refine ⟨A, 0, 0, -1, w, fun z => absurd rfl z, fun g h R hf hb hC e0 e1 => ?_, fun g h R hf hM e => ?_⟩
          · exact kc_xlate (d := 198) hf (by omega) hC.1.1 hn (fun z => absurd c1 z) (fun _ z => absurd (by rw [hC.1.2.1]; exact c2) z) (fun _ _ _ z => absurd (by rw [hC.1.2.1, hC.1.2.2.1] at z; exact z) c4) (fun _ _ _ _ _ => e1 rfl h hf hC kFc.rfl') (fun _ _ _ _ z => absurd z (by omega))
          · exact kc_late (d := 197) hf hM.1.1 hn (fun z => absurd c1 z) (fun _ z => absurd (by rw [hM.1.2.1]; exact ⟨c2.1, eqv.mpr c2.2⟩) z) (fun _ _ _ z => absurd (by rw [hM.1.2.1, hM.1.2.2.1] at z; exact z) c4) (fun _ _ _ _ _ => e _ _ (kf_m hf) hM.m0 kFm.m0 rfl (fun _ => rfl)) (fun _ _ _ _ z => absurd z (by omega))
        · obtain ⟨x, y, hx, hy, -, -, hxy⟩ := kp_rowN c2.1.1
          refine ⟨(lAd A.1 t (16 * a + b) mo 1, A.2), 0, 0, 1, ⟨w.1.ad (by omega) (kp_tabN c1) ⟨_, by omega, hxy⟩ (Or.inr rfl), w.2⟩, fun z => absurd rfl z, fun g h R hf hb hC e0 e1 => ?_, fun g h R hf hM e => ?_⟩
          · exact kc_xlate (d := 198) hf (by omega) hC.1.1 hn (fun z => absurd c1 z) (fun _ z => absurd (by rw [hC.1.2.1]; exact c2) z) (fun _ _ _ z => absurd (by rw [hC.1.2.1, hC.1.2.2.1] at z; exact z) c4) (fun _ _ _ _ z => absurd z c3) (fun _ _ _ _ _ => e1 rfl _ (kf_lad hf) (hC.ad w hf.1) kFc.ad)
          · exact kc_late (d := 197) hf hM.1.1 hn (fun z => absurd c1 z) (fun _ z => absurd (by rw [hM.1.2.1]; exact ⟨c2.1, eqv.mpr c2.2⟩) z) (fun _ _ _ z => absurd (by rw [hM.1.2.1, hM.1.2.2.1] at z; exact z) c4) (fun _ _ _ _ z => absurd z c3) (fun _ _ _ _ _ => e _ _ (kf_ad (kf_m hf)) (hM.ad rfl) kFm.ad rfl (fun _ => rfl))
    · refine ⟨A, 2, 0, 0, w, fun _ => ⟨rfl, Or.inr ⟨rfl, rfl⟩⟩, fun g h R hf hb hC e0 e1 => ?_, fun g h R hf hM e => ?_⟩
      · exact kc_xlate (d := 198) hf (by omega) hC.1.1 hn (fun z => absurd c1 z) (fun _ _ => e0 (by decide)) (fun _ y z _ => absurd ⟨y, by rw [hC.1.2.1] at z; exact z⟩ c2) (fun _ y z _ _ => absurd ⟨y, by rw [hC.1.2.1] at z; exact z⟩ c2) (fun _ y z _ _ => absurd ⟨y, by rw [hC.1.2.1] at z; exact z⟩ c2)
      · exact kc_late (d := 197) hf hM.1.1 hn (fun z => absurd c1 z) (fun _ _ => e _ _ (kf_m (kf_m hf)) hM.mt kFm.mt rfl (fun z => by cases z)) (fun _ y z _ => absurd ⟨y, by rw [hM.1.2.1] at z; exact eqv.mp z⟩ c2) (fun _ y z _ _ => absurd ⟨y, by rw [hM.1.2.1] at z; exact eqv.mp z⟩ c2) (fun _ y z _ _ => absurd ⟨y, by rw [hM.1.2.1] at z; exact eqv.mp z⟩ c2)
  · refine ⟨A, 1, 1, 0, w, fun _ => ⟨rfl, Or.inl ⟨rfl, rfl⟩⟩, fun g h R hf hb hC e0 e1 => ?_, fun g h R hf hM e => ?_⟩
    · exact kc_xlate (d := 198) hf (by omega) hC.1.1 hn (fun _ => e0 (by decide)) (fun z _ => absurd z c1) (fun z _ _ _ => absurd z c1) (fun z _ _ _ _ => absurd z c1) (fun z _ _ _ _ => absurd z c1)
    · exact kc_late (d := 197) hf hM.1.1 hn (fun _ => e _ _ (kf_m (kf_m hf)) hM.mt kFm.mt rfl (fun z => by cases z)) (fun z _ => absurd z c1) (fun z _ _ _ => absurd z c1) (fun z _ _ _ _ => absurd z c1) (fun z _ _ _ _ => absurd z c1)
def kmp1 (x : Nat) (c e : Nat) : Prop := c = 1 ∧ e = x
theorem ko_room (w : kWA A) (v : Int32) : kOx (kmp1 0) 200 82 155 [.int v] A := by
  by_cases c1 : 0 ≤ v ∧ v ≤ 10
  · refine ⟨((A.1.1, A.1.2.1, v, A.1.2.2.2), A.2), 0, 0, lR A.1, w, fun z => absurd rfl z, fun g h R hf hb hC e0 e1 => ?_, fun g h R hf hM e => ?_⟩
    · refine kc_xroom (d := 199) hf (by omega) (fun z => absurd c1 z) (fun _ => ?_)
      rw [hC.1.2.2.1]
      have oth : ∀ a, a ≠ 2 → ka_I (ka_sI h 2 8 v) a = ka_I h a := fun a ha => kI_o _ _ _ ha
      obtain ⟨a1, a2, a3, a4, a5⟩ := hC.1
      exact e1 rfl _ (kf_w hf 2 rfl rfl) (hC.led hf.1 ⟨a1, a2, rfl, a4, a5⟩ rfl (fun _ => rfl) (fun _ => rfl) (fun a ha => oth a (by omega)) (Nat.le_refl _) (fun _ _ => rfl)) ⟨Nat.le_add_right _ _, Nat.le_add_right _ _, fun a a1 a2 => oth a (by omega)⟩
    · refine kc_room (d := 198) hf (fun z => absurd c1 z) (fun _ => ?_)
      obtain ⟨a1, a2, a3, a4⟩ := hM.1
      rw [a3]
      exact e _ _ (kf_m (kf_m hf)) (hM.led ⟨a1, a2, rfl, a4⟩ (fun k k0 k1 k2 k3 => (ka_IJ _ _ _ _ k3).trans (ka_IJ _ _ _ _ k0)) (fun a ha => (kI_o _ _ _ (by omega)).trans (kI_o _ _ _ (by omega)))) (kFm.m0.sI (by omega)) rfl (fun _ => rfl)
  · refine ⟨A, 1, 0, 0, w, fun _ => ⟨rfl, rfl, rfl⟩, fun g h R hf hb hC e0 e1 => ?_, fun g h R hf hM e => ?_⟩
    · exact kc_xroom (d := 199) hf (by omega) (fun _ => e0 (by decide)) (fun z => absurd z c1)
    · exact kc_room (d := 198) hf (fun _ => e _ _ (kf_m (kf_m hf)) hM.mt kFm.mt rfl (fun z => by cases z)) (fun z => absurd z c1)
theorem kcA.dr {h : ka_H} {n : Nat} (hC : kcA A h) (hf : 103 ≤ h.1) (h2 : n ≤ lNn A.1) : kcA ((n, A.1.2), A.2) (ka_sI h 2 6 (nI n)) := by
  obtain ⟨a1, a2, a3, a4, a5⟩ := hC.1
  exact hC.led hf ⟨rfl, a2, a3, fun k hk => a4 k (Nat.lt_of_lt_of_le hk h2), a5⟩ rfl (fun _ => rfl) (fun _ => rfl) (fun a ha => kI_o _ _ _ (by omega)) (Nat.le_refl _) (fun _ _ => rfl)
theorem kmA.dr {h : ka_H} {n : Nat} (hM : kmA A h) (h2 : n ≤ lNn A.1) : kmA ((n, A.1.2), A.2) (ka_sI (km_0 h) 72 2 (nI n)) := by
  obtain ⟨a1, a2, a3, a4⟩ := hM.1
  exact hM.led ⟨rfl, a2, a3, fun k hk => a4 k (Nat.lt_of_lt_of_le hk h2)⟩ (fun k k0 k1 k2 k3 => (ka_IJ _ _ _ _ k2).trans (ka_IJ _ _ _ _ k0)) (fun a ha => (kI_o _ _ _ (by omega)).trans (kI_o _ _ _ (by omega)))
theorem kFc.w {h : ka_H} {a k : Nat} {v : Int32} (ha : a < 72) : kFc h (ka_sI h a k v) := ⟨Nat.le_add_right _ _, Nat.le_add_right _ _, fun b b1 b2 => kI_o _ _ _ (by omega)⟩
theorem ko_drop (w : kWA A) : kOx (fun _ _ => False) 200 83 157 [] A := by
  have hz := lZ_le w.1
  refine ⟨((lZ A.1, A.1.2), A.2), 0, 0, nI (lNn A.1 - lZ A.1), ⟨w.1.dr (Nat.le_refl _) hz, w.2⟩, fun z => absurd rfl z, fun g h R hf hb hC e0 e1 => ?_, fun g h R hf hM e => ?_⟩
  · refine kc_xdrop (d := 197) hf hC.1.1 hC.1.2.1 w.1.2.1 ?_
    rw [kl_endZ hC.1 w.1, nI_sub hz, nI_sub (by omega), show lNn A.1 - (lNn A.1 - lZ A.1) = lZ A.1 by omega]
    exact e1 rfl _ (kf_w hf 2 rfl rfl) (hC.dr hf.1 hz) (kFc.w (by omega))
  · refine kc_drop (d := 198) hf hM.1.1 w.1.1 ?_
    rw [show kp_sum (km_open h) (lNn A.1) = nI (lNn A.1 - lZ A.1) from (kp_sum_cg _ (fun k hk => by unfold km_open; rw [(hM.1.2.2.2 k hk).2.2.2.1, hM.1.2.1])).trans (lZ_open w.1), nI_sub (by omega), show lNn A.1 - (lNn A.1 - lZ A.1) = lZ A.1 by omega]
    exact e _ _ (kf_m (kf_m hf)) (hM.dr hz) (kFm.m0.sI (by omega)) rfl (fun _ => rfl)
theorem ko_close (w : kWA A) : kOx (kmp1 3) 200 84 158 [] A := by
  have hc := w.1.2.1
  by_cases c1 : lC A.1 < 100
  · refine ⟨(lCl A.1, A.2), 0, 0, nI (lC A.1 + 1), ⟨w.1.cl c1, w.2.1, w.2.2.1.le (Nat.le_succ _), w.2.2.2⟩, fun z => absurd rfl z, fun g h R hf hb hC e0 e1 => ?_, fun g h R hf hM e => ?_⟩
    · refine kc_xclose (d := 198) hf (by omega) hC.1.2.1 hc (fun z => by omega) (fun _ => ?_)
      have oth : ∀ a, a ≠ 2 → a ≠ 8 → ka_I (kl_cl h (lC A.1)) a = ka_I h a := fun a a1 a2 => by
        unfold kl_cl
        rw [kI_o _ _ _ a1, kI_o _ _ _ a2]
      obtain ⟨a1, a2, a3, a4, a5⟩ := hC.1
      refine e1 rfl _ (kf_lcl hf) (hC.led hf.1 ⟨a1, rfl, a3, a4, fun e he => ?_⟩ rfl (fun _ => rfl) (fun _ => rfl) (fun a ha => oth a (by omega) (by omega)) (by rw [lCl_Z]; exact lZ_le w.1) (fun _ _ => rfl)) ⟨Nat.le_add_right _ _, Nat.le_add_right _ _, fun a b1 b2 => oth a (by omega) (by omega)⟩
      have he2 : e < lC A.1 + 1 := he
      show (if e = lC A.1 then ka_I h 2 6 else ka_I h 8 e) = nI (if e = lC A.1 then lNn A.1 else lEn A.1 e)
      by_cases c : e = lC A.1
      · rw [if_pos c, if_pos c]; exact a1
      · rw [if_neg c, if_neg c]; exact a5 e (by omega)
    · refine kc_close (d := 198) hf (fun z => absurd (by rw [hM.1.2.1]; exact nI_lt (b := 100) c1 (by omega)) z) (fun _ => ?_)
      obtain ⟨a1, a2, a3, a4⟩ := hM.1
      rw [a2, ← nI_succ]
      exact e _ _ (kf_m (kf_m hf)) (hM.led ⟨a1, rfl, a3, a4⟩ (fun k k0 k1 k2 k3 => (ka_IJ _ _ _ _ k1).trans (ka_IJ _ _ _ _ k0)) (fun a ha => (kI_o _ _ _ (by omega)).trans (kI_o _ _ _ (by omega)))) (kFm.m0.sI (by omega)) rfl (fun _ => rfl)
  · refine ⟨A, 1, 3, 0, w, fun _ => ⟨rfl, rfl, rfl⟩, fun g h R hf hb hC e0 e1 => ?_, fun g h R hf hM e => ?_⟩
    · exact kc_xclose (d := 198) hf (by omega) hC.1.2.1 hc (fun _ => e0 (by decide)) (fun z => absurd z c1)
    · refine kc_close (d := 198) hf (fun _ => e _ _ (kf_m (kf_m hf)) hM.mt kFm.mt rfl (fun z => by cases z)) (fun z => absurd z ?_)
      rw [hM.1.2.1]
      exact nI_nlt (b := 100) (by omega) (by omega)
theorem i32_le {v : Int32} {N : Nat} (h : 0 ≤ v ∧ v ≤ nI N) (hN : N < 2 ^ 31) : ∃ k, k ≤ N ∧ v = nI k := by
  have h1 : (0 : Int) ≤ v.toInt := Int32.le_iff_toInt_le.mp h.1
  have h2 := Int32.le_iff_toInt_le.mp h.2
  rw [nI_toInt hN] at h2
  exact ⟨v.toInt.toNat, by omega, Int32.toInt_inj.mp (by rw [nI_toInt (by omega)]; omega)⟩
theorem ko_rows (w : kWA A) (t a b ed : Int32) : kOx kmp12 200 85 160 [.int t, .int a, .int b, .int ed] A := by
  have hn := w.1.1
  have hc := w.1.2.1
  by_cases c1 : kp_tab t
  · by_cases c2 : kp_row a b ∧ (0 ≤ ed ∧ ed ≤ nI (lC A.1))
    · obtain ⟨x, y, hx, hy, -, -, hxy⟩ := kp_rowN c2.1
      obtain ⟨k, hk, rfl⟩ := kp_tabN c1
      obtain ⟨e, he, rfl⟩ := i32_le c2.2 (by omega)
      have hle := lE_le w.1 e
      refine ⟨A, 0, 0, lT A.1 (lE A.1 e) k (16 * x + y), w, fun z => absurd rfl z, fun g h R hf hb hC e0 e1 => ?_, fun g h R hf hM e3 => ?_⟩
      · refine kc_xrows (d := 197) hf (by omega) hC.1.1 hC.1.2.1 hc (kl_endN hC.1 w.1 (by omega)) (by omega) (fun z => absurd c1 z) (fun _ z => absurd (by rw [hC.1.2.1]; exact c2) z) (fun _ _ _ => ?_)
        rw [hxy, show kp_sum (kl_ct h (nI k) (nI (16 * x + y))) (lE A.1 e) = lT A.1 (lE A.1 e) k (16 * x + y) from kp_sum_cg _ (fun j hj => by unfold kl_ct; rw [(hC.1.2.2.2.1 j (by omega)).1, (hC.1.2.2.2.1 j (by omega)).2.1, (hC.1.2.2.2.1 j (by omega)).2.2.1])]
        exact e1 rfl h hf hC kFc.rfl'
      · refine kc_rows (d := 197) hf hM.1.1 hn (fun z => absurd c1 z) (fun _ z => absurd (by rw [hM.1.2.1]; exact c2) z) (fun _ _ _ => ?_)
        rw [hxy, show kp_sum (km_ct h (nI k) (nI (16 * x + y)) (nI e)) (lNn A.1) = lT A.1 (lE A.1 e) k (16 * x + y) from (kp_sum_cg _ (fun j hj => by unfold km_ct; rw [(hM.1.2.2.2 j hj).1, (hM.1.2.2.2 j hj).2.1, (hM.1.2.2.2 j hj).2.2.1, (hM.1.2.2.2 j hj).2.2.2.1])).trans (lT_m w.1 (by omega))]
        exact e3 _ _ (kf_m hf) hM.m0 kFm.m0 rfl (fun _ => rfl)
    · refine ⟨A, 2, 0, 0, w, fun _ => ⟨rfl, Or.inr ⟨rfl, rfl⟩⟩, fun g h R hf hb hC e0 e1 => ?_, fun g h R hf hM e => ?_⟩
      · obtain ⟨m, hm, em⟩ := kl_endX hC.1 w.1 ed
        exact kc_xrows (d := 197) hf (by omega) hC.1.1 hC.1.2.1 hc em (by omega) (fun z => absurd c1 z) (fun _ _ => e0 (by decide)) (fun _ y z => absurd ⟨y, by rw [hC.1.2.1] at z; exact z⟩ c2)
      · exact kc_rows (d := 197) hf hM.1.1 hn (fun z => absurd c1 z) (fun _ _ => e _ _ (kf_m (kf_m hf)) hM.mt kFm.mt rfl (fun z => by cases z)) (fun _ y z => absurd ⟨y, by rw [hM.1.2.1] at z; exact z⟩ c2)
  · refine ⟨A, 1, 1, 0, w, fun _ => ⟨rfl, Or.inl ⟨rfl, rfl⟩⟩, fun g h R hf hb hC e0 e1 => ?_, fun g h R hf hM e => ?_⟩
    · obtain ⟨m, hm, em⟩ := kl_endX hC.1 w.1 ed
      exact kc_xrows (d := 197) hf (by omega) hC.1.1 hC.1.2.1 hc em (by omega) (fun _ => e0 (by decide)) (fun z _ => absurd z c1) (fun z _ _ => absurd z c1)
    · exact kc_rows (d := 197) hf hM.1.1 hn (fun _ => e _ _ (kf_m (kf_m hf)) hM.mt kFm.mt rfl (fun z => by cases z)) (fun z _ => absurd z c1) (fun z _ _ => absurd z c1)
end L3
