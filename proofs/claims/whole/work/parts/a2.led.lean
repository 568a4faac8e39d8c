/-! ===== the calls on the changes told, by the state ===== -/
theorem kI_o (h : ka_H) {a b : Nat} (k : Nat) (v : Int32) (e : b ≠ a) : ka_I (ka_sI h a k v) b = ka_I h b := funext fun j => ka_uN _ _ _ _ e j
theorem kFm.rfl' {h : ka_H} : kFm h h := ⟨rfl, rfl, fun _ => rfl, fun _ => rfl, fun _ => rfl, fun _ _ => rfl⟩
theorem kmA.m0 {A : kA} {h : ka_H} (q : kmA A h) {v : Int32} : kmA A (ka_sI h 72 0 v) := q.st (fun k hk => ka_IJ _ _ _ _ (by omega)) (fun a a1 a2 _ _ _ _ _ _ => kI_o _ _ _ (by omega))
/-- a call that is refused leaves the reference as it was -/
theorem kmA.mt {A : kA} {h : ka_H} (q : kmA A h) {v : Int32} : kmA A (km_t h v) := q.m0.m0
theorem kFm.mt {h : ka_H} {v : Int32} : kFm h (km_t h v) := (kFm.rfl'.sI (by omega)).sI (by omega)
theorem kFm.m0 {h : ka_H} : kFm h (km_0 h) := kFm.rfl'.sI (by omega)
theorem km_t0 {h : ka_H} {v : Int32} : ka_I (km_t h v) 72 0 = v := rfl
/-- an operation: both sides come to the same end -/
def kOp (D w m : Nat) (as : List Value) (A : kA) : Prop := ∃ A' co v, kWA A' ∧ kYc D w as A A' co v ∧ kYr D m as A A' co v
def kOx (mp : Nat → Nat → Prop) (D x m : Nat) (as : List Value) (A : kA) : Prop := ∃ A' co ex v, kWA A' ∧ (co ≠ 0 → A' = A ∧ mp co ex) ∧ kYx D x as A A' co ex v ∧ kYr D m as A A' co v
def lAd (L : kAl) (t ce mo la : Int32) : kAl := (lNn L + 1, lC L, lR L, kh_u (lTb L) (lNn L) t, kh_u (lCe L) (lNn L) ce, kh_u (lMo L) (lNn L) mo, kh_u (lEd L) (lNn L) (nI (lC L)), kh_u (lLa L) (lNn L) la, lEn L)
theorem kp_tabN {t : Int32} (h : kp_tab t) : ∃ k, k < 4 ∧ t = nI k := by
  have h1 := Int32.le_iff_toInt_le.mp h.1
  have h2 := Int32.le_iff_toInt_le.mp h.2
  have h1' : (0 : Int) ≤ t.toInt := h1
  have h2' : t.toInt ≤ 3 := h2
  exact ⟨t.toInt.toNat, by omega, Int32.toInt_inj.mp (by rw [nI_toInt (by omega)]; omega)⟩
theorem kp_in15 {a : Int32} (h : 0 ≤ a ∧ a ≤ 15) : ∃ k, k < 16 ∧ a = nI k := by
  have h1 : (0 : Int) ≤ a.toInt := Int32.le_iff_toInt_le.mp h.1
  have h2 : a.toInt ≤ 15 := Int32.le_iff_toInt_le.mp h.2
  exact ⟨a.toInt.toNat, by omega, Int32.toInt_inj.mp (by rw [nI_toInt (by omega)]; omega)⟩
theorem kp_rowN {a b : Int32} (h : kp_row a b) : ∃ x y, x < 16 ∧ y < 16 ∧ a = nI x ∧ b = nI y ∧ 16 * a + b = nI (16 * x + y) := by
  obtain ⟨x, hx, rfl⟩ := kp_in15 h.1
  obtain ⟨y, hy, rfl⟩ := kp_in15 h.2
  exact ⟨x, y, hx, hy, rfl, rfl, nI_cJ x y⟩
section LA
variable {L : kAl} {t ce mo la : Int32}
theorem kWl.ad (w : kWl L) (hn : lNn L < 400) (ht : ∃ k, k < 4 ∧ t = nI k) (hc : ∃ k, k < 256 ∧ ce = nI k) (hl : la = 0 ∨ la = 1) : kWl (lAd L t ce mo la) := by
  obtain ⟨w1, w2, w3, w4⟩ := w
  refine ⟨by show lNn L + 1 ≤ 400; omega, w2, fun k hk => ?_, fun e he => Nat.le_succ_of_le (w4 e he)⟩
  show (∃ t', t' < 4 ∧ kh_u (lTb L) (lNn L) t k = nI t') ∧ (∃ r, r < 256 ∧ kh_u (lCe L) (lNn L) ce k = nI r) ∧ (∃ e, e ≤ lC L ∧ kh_u (lEd L) (lNn L) (nI (lC L)) k = nI e ∧ ∀ e', e' < lC L → (e ≤ e' ↔ k < lEn L e')) ∧ (kh_u (lLa L) (lNn L) la k = 0 ∨ kh_u (lLa L) (lNn L) la k = 1)
  have hk' : k < lNn L + 1 := hk
  by_cases c : k = lNn L
  · subst c
    rw [kh_uS, kh_uS, kh_uS, kh_uS]
    exact ⟨ht, hc, ⟨lC L, Nat.le_refl _, rfl, fun e' he' => by have := w4 e' he'; omega⟩, hl⟩
  · rw [kh_uN _ _ c, kh_uN _ _ c, kh_uN _ _ c, kh_uN _ _ c]
    exact w3 k (by omega)
theorem lAd_T {m : Nat} (hm : m ≤ lNn L) : lT (lAd L t ce mo la) m = lT L m := by
  funext t' r
  refine kp_sum_cg m (fun k hk => ?_)
  show (if kh_u (lTb L) (lNn L) t k = nI t' ∧ kh_u (lCe L) (lNn L) ce k = nI r then kh_u (lMo L) (lNn L) mo k else 0) = _
  rw [kh_uN _ _ (by omega), kh_uN _ _ (by omega), kh_uN _ _ (by omega)]
theorem kcA.ad {A : kA} {h : ka_H} (q : kcA A h) (w : kWA A) (h103 : 103 ≤ h.1) : kcA (lAd A.1 t ce mo la, A.2) (kl_ad h (lNn A.1) t ce mo la) := by
  obtain ⟨⟨a1, a2, a3, a4, a5⟩, q2, q3, sb, qb, st, q4⟩ := q
  have oth : ∀ a, a < 2 ∨ 7 < a → ka_I (kl_ad h (lNn A.1) t ce mo la) a = ka_I h a := fun a ha => by
    unfold kl_ad
    rw [kI_o, kI_o, kI_o, kI_o, kI_o, kI_o] <;> omega
  refine ⟨⟨rfl, a2, a3, fun k hk => ?_, a5⟩, q2.st (fun a b1 b2 => oth a (by omega)), q3.st (by rw [oth 1 (by omega)]) (oth 70 (by omega)), sb, qb, st, q4.st (h' := kl_ad h (lNn A.1) t ce mo la) h103 (Nat.le_refl _) (fun _ _ => rfl) (fun _ _ => rfl) (fun a b1 _ => oth a (by omega)) (fun k _ => by rw [oth 1 (by omega)]) (oth 64 (by omega)) (Nat.le_refl _) (fun m hm => lAd_T (Nat.le_trans hm (lZ_le w.1)))⟩
  have hk' : k < lNn A.1 + 1 := hk
  show (if k = lNn A.1 then t else ka_I h 3 k) = kh_u (lTb A.1) (lNn A.1) t k ∧ (if k = lNn A.1 then ce else ka_I h 4 k) = kh_u (lCe A.1) (lNn A.1) ce k ∧ (if k = lNn A.1 then mo else ka_I h 5 k) = kh_u (lMo A.1) (lNn A.1) mo k ∧ (if k = lNn A.1 then ka_I h 2 7 else ka_I h 6 k) = kh_u (lEd A.1) (lNn A.1) (nI (lC A.1)) k ∧ (if k = lNn A.1 then la else ka_I h 7 k) = kh_u (lLa A.1) (lNn A.1) la k
  unfold kh_u
  by_cases c : k = lNn A.1
  · simp only [if_pos c]
    exact ⟨trivial, trivial, trivial, a2, trivial⟩
  · simp only [if_neg c]
    exact a4 k (by omega)
theorem kmA.ad {A : kA} {h : ka_H} {a b : Int32} (q : kmA A h) (hce : ce = 16 * a + b) : kmA (lAd A.1 t ce mo la, A.2) (kp_ad (km_0 h) (lNn A.1) t a b mo la) := by
  obtain ⟨⟨a1, a2, a3, a4⟩, q2, q3, q4⟩ := q
  have oth : ∀ a', 77 < a' → ka_I (kp_ad (km_0 h) (lNn A.1) t a b mo la) a' = ka_I h a' := fun a' ha => by
    unfold kp_ad
    rw [kI_o, kI_o, kI_o, kI_o, kI_o, kI_o, kI_o] <;> omega
  have o72 : ∀ k, k ≠ 2 → k ≠ 0 → ka_I (kp_ad (km_0 h) (lNn A.1) t a b mo la) 72 k = ka_I h 72 k := fun k hk h0 => by
    show (if k = 2 then _ else if k = 0 then _ else ka_I h 72 k) = _
    rw [if_neg hk, if_neg h0]
  refine ⟨⟨rfl, (o72 1 (by omega) (by omega)).trans a2, (o72 3 (by omega) (by omega)).trans a3, fun k hk => ?_⟩, q2.st (fun k hk => o72 k (by omega) (by omega)) (oth 89 (by omega)), q3.st (fun k hk => o72 k (by omega) (by omega)) (fun a' b1 _ _ _ _ => oth a' (by omega)), q4.st (o72 44 (by omega) (by omega)) (fun a' b1 _ => oth a' (by omega))⟩
  have hk' : k < lNn A.1 + 1 := hk
  subst hce
  show (if k = lNn A.1 then t else ka_I h 73 k) = kh_u (lTb A.1) (lNn A.1) t k ∧ (if k = lNn A.1 then 16 * a + b else ka_I h 74 k) = kh_u (lCe A.1) (lNn A.1) (16 * a + b) k ∧ (if k = lNn A.1 then mo else ka_I h 75 k) = kh_u (lMo A.1) (lNn A.1) mo k ∧ (if k = lNn A.1 then ka_I h 72 1 else ka_I h 76 k) = kh_u (lEd A.1) (lNn A.1) (nI (lC A.1)) k ∧ (if k = lNn A.1 then la else ka_I h 77 k) = kh_u (lLa A.1) (lNn A.1) la k
  unfold kh_u
  by_cases c : k = lNn A.1
  · simp only [if_pos c]
    exact ⟨trivial, trivial, trivial, a2, trivial⟩
  · simp only [if_neg c]
    exact a4 k (by omega)
theorem kFm.ad {h : ka_H} {n : Nat} {a b : Int32} : kFm h (kp_ad (km_0 h) n t a b mo la) := ((((((kFm.m0.sI (by omega)).sI (by omega)).sI (by omega)).sI (by omega)).sI (by omega)).sI (by omega))
theorem kFc.ad {h : ka_H} {n : Nat} : kFc h (kl_ad h n t ce mo la) := ⟨Nat.le_add_right _ _, Nat.le_add_right _ _, fun a a1 a2 => by
    unfold kl_ad
    rw [kI_o, kI_o, kI_o, kI_o, kI_o, kI_o] <;> omega⟩
end LA
def kmp12 (c e : Nat) : Prop := (c = 1 ∧ e = 1) ∨ (c = 2 ∧ e = 0)
section LO
variable {A : kA}
theorem ko_change (w : kWA A) (t a b mo : Int32) : kOx kmp12 200 80 153 [.int t, .int a, .int b, .int mo] A := by
  have hn := w.1.1
  by_cases c1 : kp_tab t
  · by_cases c2 : kp_row a b ∧ kp_more mo
    · by_cases c3 : lNn A.1 = 400
      · refine ⟨A, 0, 0, -1, w, fun z => absurd rfl z, fun g h R hf hb hC e0 e1 => ?_, fun g h R hf hM e => ?_⟩
        · exact kc_xchange (d := 198) hf (by omega) hC.1.1 hn (fun z => absurd c1 z) (fun _ z => absurd c2 z) (fun _ _ _ => e1 rfl h hf hC kFc.rfl') (fun _ _ z => by omega)
        · exact kc_change (d := 197) hf hM.1.1 hn (fun z => absurd c1 z) (fun _ z => absurd c2 z) (fun _ _ _ => e _ _ (kf_m hf) hM.m0 kFm.m0 rfl (fun _ => rfl)) (fun _ _ z => by omega)
      · obtain ⟨x, y, hx, hy, -, -, hxy⟩ := kp_rowN c2.1
        refine ⟨(lAd A.1 t (16 * a + b) mo 0, A.2), 0, 0, nI (lNn A.1 + 1), ⟨w.1.ad (by omega) (kp_tabN c1) ⟨_, by omega, hxy⟩ (Or.inl rfl), w.2⟩, fun z => absurd rfl z, fun g h R hf hb hC e0 e1 => ?_, fun g h R hf hM e => ?_⟩
        · exact kc_xchange (d := 198) hf (by omega) hC.1.1 hn (fun z => absurd c1 z) (fun _ z => absurd c2 z) (fun _ _ z => absurd z c3) (fun _ _ _ => e1 rfl _ (kf_lad hf) (hC.ad w hf.1) kFc.ad)
        · exact kc_change (d := 197) hf hM.1.1 hn (fun z => absurd c1 z) (fun _ z => absurd c2 z) (fun _ _ z => absurd z c3) (fun _ _ _ => e _ _ (kf_ad (kf_m hf)) (hM.ad rfl) kFm.ad rfl (fun _ => rfl))
    · refine ⟨A, 2, 0, 0, w, fun _ => ⟨rfl, Or.inr ⟨rfl, rfl⟩⟩, fun g h R hf hb hC e0 e1 => ?_, fun g h R hf hM e => ?_⟩
      · exact kc_xchange (d := 198) hf (by omega) hC.1.1 hn (fun z => absurd c1 z) (fun _ _ => e0 (by decide)) (fun _ z _ => absurd z c2) (fun _ z _ => absurd z c2)
      · exact kc_change (d := 197) hf hM.1.1 hn (fun z => absurd c1 z) (fun _ _ => e _ _ (kf_m (kf_m hf)) hM.mt kFm.mt rfl (fun z => by cases z)) (fun _ z _ => absurd z c2) (fun _ z _ => absurd z c2)
  · refine ⟨A, 1, 1, 0, w, fun _ => ⟨rfl, Or.inl ⟨rfl, rfl⟩⟩, fun g h R hf hb hC e0 e1 => ?_, fun g h R hf hM e => ?_⟩
    · exact kc_xchange (d := 198) hf (by omega) hC.1.1 hn (fun _ => e0 (by decide)) (fun z _ => absurd z c1) (fun z _ _ => absurd z c1) (fun z _ _ => absurd z c1)
    · exact kc_change (d := 197) hf hM.1.1 hn (fun _ => e _ _ (kf_m (kf_m hf)) hM.mt kFm.mt rfl (fun z => by cases z)) (fun z _ => absurd z c1) (fun z _ _ => absurd z c1) (fun z _ _ => absurd z c1)
end LO
