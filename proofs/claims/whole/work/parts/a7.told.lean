/-! ===== told ===== -/
/-- what is told of a change -/
def lW (L : kAl) (k j : Nat) : Int32 := if j = 0 then lTb L k else if j = 1 then lCe L k / 16 else if j = 2 then lCe L k - lCe L k / 16 * 16 else if j = 3 then lMo L k else if j = 4 then lEd L k else lLa L k
section TO
variable {g : Nat × (Nat → Int32)} {d : Nat} {h : ka_H} {R : ka_R → ka_H → Prop} {L : kAl}
theorem kc_ofChange {k j : Nat} (hf : kf g h) (q : kcl L h) (hk : k < lNn L) (hn : lNn L ≤ 400) (hj : j < 6) (e : R (kp_ri (lW L k j)) h) : kp_T (d + 1) 35 [.ref 2, .int (nI k), .int (nI j)] h R := by
  obtain ⟨y1, y2, y3, y4, y5⟩ := q.2.2.2.1 k hk
  have hin : vp_in (nI k) 400 := nI_in (by omega) (by omega)
  have c : (nI k).toNatClampNeg = k := nI_clamp (by omega)
  refine kq_in hf rfl rfl rfl (kq_seg (fun p => Nat.beq p 1) 1 ?_)
  refine kq_tsw (lo := 0) rfl rfl (Nat.zero_le _) (by omega) (by decide) ?_
  rcases (by omega : j = 0 ∨ j = 1 ∨ j = 2 ∨ j = 3 ∨ j = 4 ∨ j = 5) with z | z | z | z | z | z
  · subst z
    refine (kq_seg kp_no 20 ⟨hin, ⟨trivial, ?_⟩⟩ : kq_ex g d 35 R 36 [.ref 2, .int (nI k), .int (nI 0)] [] h)
    rw [c, show ka_I h (kq_p h 2 0) k = _ from y1]; exact e
  · subst z
    refine (kq_seg kp_no 20 ⟨hin, ⟨by decide, ⟨trivial, ?_⟩⟩⟩ : kq_ex g d 35 R 43 [.ref 2, .int (nI k), .int (nI 1)] [] h)
    rw [c, show ka_I h (kq_p h 2 1) k = _ from y2]; exact e
  · subst z
    refine (kq_seg kp_no 20 ⟨hin, ⟨by decide, ⟨trivial, ?_⟩⟩⟩ : kq_ex g d 35 R 53 [.ref 2, .int (nI k), .int (nI 2)] [] h)
    rw [c, show ka_I h (kq_p h 2 1) k = _ from y2]; exact e
  · subst z
    refine (kq_seg kp_no 20 ⟨hin, ⟨trivial, ?_⟩⟩ : kq_ex g d 35 R 63 [.ref 2, .int (nI k), .int (nI 3)] [] h)
    rw [c, show ka_I h (kq_p h 2 2) k = _ from y3]; exact e
  · subst z
    refine (kq_seg kp_no 20 ⟨hin, ⟨trivial, ?_⟩⟩ : kq_ex g d 35 R 70 [.ref 2, .int (nI k), .int (nI 4)] [] h)
    rw [c, show ka_I h (kq_p h 2 3) k = _ from y4]; exact e
  · subst z
    refine (kq_seg kp_no 20 ⟨hin, ⟨trivial, ?_⟩⟩ : kq_ex g d 35 R 77 [.ref 2, .int (nI k), .int (nI 5)] [] h)
    rw [c, show ka_I h (kq_p h 2 4) k = _ from y5]; exact e
theorem kc_xtold {v u : Int32} (hf : kf g h) (hb : h.1 < 1000000) (q : kcl L h) (hn : lNn L ≤ 400) (e0 : ¬ kIsN (lNn L) v → R (.inr (1, h.1)) (kx h 1)) (e1 : kIsN (lNn L) v → ¬ (0 ≤ u ∧ u ≤ 5) → R (.inr (0, h.1)) (kx h 0)) (e2 : ∀ k j, v = nI k → k < lNn L → u = nI j → j < 6 → R (kp_ri (lW L k j)) h) : kp_T (d + 2) 86 [.ref 1, .int v, .int u] h R := by
  have j15 : ¬ kIsN (lNn L) v → kq_ex g (d + 1) 86 R 15 [.ref 1, .int v, .int u] [] h := fun c => kq_seg kp_no 10 ⟨hb, e0 c⟩
  have j34 : kIsN (lNn L) v → ¬ (0 ≤ u ∧ u ≤ 5) → kq_ex g (d + 1) 86 R 34 [.ref 1, .int v, .int u] [] h := fun c c2 => kq_seg kp_no 10 ⟨hb, e1 c c2⟩
  refine kq_in hf rfl rfl rfl (kq_seg (fun p => Nat.beq p 15 || Nat.beq p 34) 40 ⟨fun c => ?_, fun c => ⟨fun c2 => ⟨fun c3 => ?_, fun c3 => ⟨fun c4 => ?_, fun c4 => ?_⟩⟩, fun c2 => ?_⟩⟩)
  · exact j15 (fun ⟨k, y1, y2⟩ => by rw [y1] at c; exact absurd c (nI_n0 (by omega)))
  · have c2' : v < nI (lNn L) := by rw [← q.1]; exact c2
    obtain ⟨k, hk, rfl⟩ := i32_nat c c2' (by omega)
    exact j34 ⟨k, rfl, hk⟩ (fun z => absurd c3 (Int32.not_lt.mpr z.1))
  · have c2' : v < nI (lNn L) := by rw [← q.1]; exact c2
    obtain ⟨k, hk, rfl⟩ := i32_nat c c2' (by omega)
    obtain ⟨j, hj, rfl⟩ := i32_le (v := u) (N := 5) ⟨Int32.not_lt.mp c3, Int32.not_lt.mp c4⟩ (by omega)
    exact kc_ofChange hf q hk hn (by omega) ⟨hf, ⟨trivial, e2 k j rfl hk rfl (by omega)⟩⟩
  · have c2' : v < nI (lNn L) := by rw [← q.1]; exact c2
    obtain ⟨k, hk, rfl⟩ := i32_nat c c2' (by omega)
    exact j34 ⟨k, rfl, hk⟩ (fun z => absurd c4 (Int32.not_lt.mpr z.2))
  · refine j15 (fun ⟨k, y1, y2⟩ => c2 ?_)
    show v < ka_I h 2 6
    rw [q.1, y1]
    exact nI_lt y2 (by omega)
theorem kIsN_iff {n : Nat} {v : Int32} (hn : n < 2 ^ 31) : (0 ≤ v ∧ v ≤ nI n - 1) ↔ kIsN n v := by
  by_cases z : n = 0
  · subst z
    refine ⟨fun y => ?_, fun ⟨k, _, y⟩ => absurd y (Nat.not_lt_zero k)⟩
    have a1 : (0 : Int) ≤ v.toInt := Int32.le_iff_toInt_le.mp y.1
    have a2 : v.toInt ≤ -1 := Int32.le_iff_toInt_le.mp y.2
    omega
  · rw [nI_m1' (by omega)]
    refine ⟨fun y => ?_, fun ⟨k, y1, y2⟩ => ?_⟩
    · obtain ⟨k, hk, e⟩ := i32_le y (by omega)
      exact ⟨k, e, by omega⟩
    · rw [y1]
      refine ⟨Int32.not_lt.mp (nI_n0 (by omega)), Int32.not_lt.mp (nI_nlt (by omega) (by omega))⟩
theorem kc_told {v u : Int32} (hf : kf g h) (q : kml L h) (wl : kWl L) (e0 : ¬ kIsN (lNn L) v → R (kp_ri 0) (km_t h 1)) (e1 : kIsN (lNn L) v → ¬ (0 ≤ u ∧ u ≤ 5) → R (kp_ri 0) (km_t h 2)) (e2 : ∀ k j, v = nI k → k < lNn L → u = nI j → j < 6 → R (kp_ri (lW L k j)) (km_0 h)) : kp_T (d + 2) 232 [.ref 72, .int v, .int u] h R := by
  have hn := wl.1
  have hf0 : kf g (km_0 h) := kf_m hf
  have hiff := kIsN_iff (v := v) (n := lNn L) (by omega)
  have i2 : ka_I (ka_sI h 72 0 (Int32.ofInt 0)) 72 2 = nI (lNn L) := q.1
  refine kq_in hf rfl rfl rfl (kq_seg (fun p => Nat.beq p 40) 40 ?_)
  refine kq_ci kc_within hf0 ?_
  refine kq_ci (kc_may (code := 1) hf0 rfl (by decide)) (kf_mh hf0) ?_
  rw [i2, show nI (lNn L) - Int32.ofInt 1 = nI (lNn L) - 1 from rfl]
  by_cases c : kIsN (lNn L) v
  · rw [kp_bT (show Int32.ofInt 0 ≤ v ∧ v ≤ nI (lNn L) - 1 from hiff.mpr c), show kp_mh (Int32.ofInt 0 ≤ v ∧ v ≤ nI (lNn L) - 1) 1 (km_0 h) = km_0 h from if_pos (hiff.mpr c)]
    refine ⟨fun z => absurd z (by decide), fun _ => ?_⟩
    refine kq_ci kc_within hf0 ?_
    refine kq_ci (kc_may (code := 2) hf0 rfl (by decide)) (kf_mh hf0) ?_
    by_cases c2 : 0 ≤ u ∧ u ≤ 5
    · rw [kp_bT (show Int32.ofInt 0 ≤ u ∧ u ≤ Int32.ofInt 5 from c2), show kp_mh (Int32.ofInt 0 ≤ u ∧ u ≤ Int32.ofInt 5) 2 (km_0 h) = km_0 h from if_pos c2]
      refine ⟨fun _ => ?_, fun z => absurd z (by decide)⟩
      obtain ⟨k, rfl, hk⟩ := c
      obtain ⟨j, hj, rfl⟩ := i32_le (v := u) (N := 5) c2 (by omega)
      obtain ⟨y1, y2, y3, y4, y5⟩ := q.2.2.2 k hk
      have e := e2 k j rfl hk rfl (by omega)
      have hin : vp_in (nI k) 400 := nI_in (by omega) (by omega)
      have c : (nI k).toNatClampNeg = k := nI_clamp (by omega)
      refine (kq_seg (fun p => Nat.beq p 41) 1 ?_ : kq_ex g (d + 1) 232 R 40 [.ref 72, .int (nI k), .int (nI j)] [] (km_0 h))
      refine kq_tsw (lo := 0) rfl rfl (Nat.zero_le _) (by omega) (by decide) ?_
      rcases (by omega : j = 0 ∨ j = 1 ∨ j = 2 ∨ j = 3 ∨ j = 4 ∨ j = 5) with z | z | z | z | z | z
      · subst z
        refine (kq_seg kp_no 20 ⟨hin, ⟨trivial, ?_⟩⟩ : kq_ex g (d + 1) 232 R 76 [.ref 72, .int (nI k), .int (nI 0)] [] (km_0 h))
        rw [c, show ka_I (km_0 h) (kq_p (km_0 h) 72 4) k = _ from y1]; exact e
      · subst z
        refine (kq_seg kp_no 20 ⟨hin, ⟨by decide, ⟨trivial, ?_⟩⟩⟩ : kq_ex g (d + 1) 232 R 83 [.ref 72, .int (nI k), .int (nI 1)] [] (km_0 h))
        rw [c, show ka_I (km_0 h) (kq_p (km_0 h) 72 5) k = _ from y2]; exact e
      · subst z
        refine (kq_seg kp_no 20 ⟨hin, ⟨by decide, ⟨trivial, ?_⟩⟩⟩ : kq_ex g (d + 1) 232 R 93 [.ref 72, .int (nI k), .int (nI 2)] [] (km_0 h))
        rw [c, show ka_I (km_0 h) (kq_p (km_0 h) 72 5) k = _ from y2]; exact e
      · subst z
        refine (kq_seg kp_no 20 ⟨hin, ⟨trivial, ?_⟩⟩ : kq_ex g (d + 1) 232 R 103 [.ref 72, .int (nI k), .int (nI 3)] [] (km_0 h))
        rw [c, show ka_I (km_0 h) (kq_p (km_0 h) 72 6) k = _ from y3]; exact e
      · subst z
        refine (kq_seg kp_no 20 ⟨hin, ⟨trivial, ?_⟩⟩ : kq_ex g (d + 1) 232 R 110 [.ref 72, .int (nI k), .int (nI 4)] [] (km_0 h))
        rw [c, show ka_I (km_0 h) (kq_p (km_0 h) 72 7) k = _ from y4]; exact e
      · subst z
        refine (kq_seg kp_no 20 ⟨hin, ?_⟩ : kq_ex g (d + 1) 232 R 117 [.ref 72, .int (nI k), .int (nI 5)] [] (km_0 h))
        rw [c, show ka_I (km_0 h) (kq_p (km_0 h) 72 8) k = _ from y5]
        have e' : R (kp_ri (lLa L k)) (km_0 h) := e
        rcases (wl.2.2.1 k hk).2.2.2 with y | y
        · rw [y] at e' ⊢
          exact ⟨fun _ => ⟨trivial, e'⟩, fun z => absurd rfl z⟩
        · rw [y] at e' ⊢
          exact ⟨fun z => absurd z (by decide), fun _ => ⟨trivial, e'⟩⟩
    · rw [kp_bF (show ¬ (Int32.ofInt 0 ≤ u ∧ u ≤ Int32.ofInt 5) from c2), show kp_mh (Int32.ofInt 0 ≤ u ∧ u ≤ Int32.ofInt 5) 2 (km_0 h) = km_t h 2 from if_neg c2]
      exact ⟨fun z => absurd rfl z, fun _ => ⟨trivial, e1 c c2⟩⟩
  · rw [kp_bF (show ¬ (Int32.ofInt 0 ≤ v ∧ v ≤ nI (lNn L) - 1) from fun z => c (hiff.mp z)), show kp_mh (Int32.ofInt 0 ≤ v ∧ v ≤ nI (lNn L) - 1) 1 (km_0 h) = km_t h 1 from if_neg (fun z => c (hiff.mp z))]
    exact ⟨fun _ => ⟨trivial, e0 c⟩, fun z => absurd rfl z⟩
end TO
theorem ko_told {A : kA} (w : kWA A) (v u : Int32) : kOx kmp12 200 86 232 [.int v, .int u] A := by
  have hn := w.1.1
  by_cases c : kIsN (lNn A.1) v
  · by_cases c2 : 0 ≤ u ∧ u ≤ 5
    · obtain ⟨k, rfl, hk⟩ := c
      obtain ⟨j, hj, rfl⟩ := i32_le (v := u) (N := 5) c2 (by omega)
      have same : ∀ k' j', nI k = nI k' → k' < lNn A.1 → nI j = nI j' → j' < 6 → lW A.1 k' j' = lW A.1 k j := fun k' j' e1 h1 e2 h2 => by
        rw [(nI_eq (by omega) (by omega)).mp e1, (nI_eq (by omega) (by omega)).mp e2]
      refine ⟨A, 0, 0, lW A.1 k j, w, fun z => absurd rfl z, fun g h R hf hb hC e0 e1 => ?_, fun g h R hf hM e3 => ?_⟩
      · exact kc_xtold (d := 198) hf (by omega) hC.1 hn (fun z => absurd ⟨k, rfl, hk⟩ z) (fun _ z => absurd c2 z) (fun k' j' z1 z2 z3 z4 => by rw [same k' j' z1 z2 z3 z4]; exact e1 rfl h hf hC kFc.rfl')
      · exact kc_told (d := 198) hf hM.1 w.1 (fun z => absurd ⟨k, rfl, hk⟩ z) (fun _ z => absurd c2 z) (fun k' j' z1 z2 z3 z4 => by rw [same k' j' z1 z2 z3 z4]; exact e3 _ _ (kf_m hf) hM.m0 kFm.m0 rfl (fun _ => rfl))
    · have no : ∀ j, u = nI j → j < 6 → False := fun j e hj => c2 (by rw [e]; exact ⟨Int32.not_lt.mp (nI_n0 (by omega)), Int32.not_lt.mp (nI_nlt (a := 5) (by omega) (by omega))⟩)
      refine ⟨A, 2, 0, 0, w, fun _ => ⟨rfl, Or.inr ⟨rfl, rfl⟩⟩, fun g h R hf hb hC e0 e1 => ?_, fun g h R hf hM e3 => ?_⟩
      · exact kc_xtold (d := 198) hf (by omega) hC.1 hn (fun z => absurd c z) (fun _ _ => e0 (by decide)) (fun k' j' z1 z2 z3 z4 => (no j' z3 z4).elim)
      · exact kc_told (d := 198) hf hM.1 w.1 (fun z => absurd c z) (fun _ _ => e3 _ _ (kf_m (kf_m hf)) hM.mt kFm.mt rfl (fun z => by cases z)) (fun k' j' z1 z2 z3 z4 => (no j' z3 z4).elim)
  · refine ⟨A, 1, 1, 0, w, fun _ => ⟨rfl, Or.inl ⟨rfl, rfl⟩⟩, fun g h R hf hb hC e0 e1 => ?_, fun g h R hf hM e3 => ?_⟩
    · exact kc_xtold (d := 198) hf (by omega) hC.1 hn (fun _ => e0 (by decide)) (fun z => absurd z c) (fun k' j' z1 z2 z3 z4 => absurd ⟨k', z1, z2⟩ c)
    · exact kc_told (d := 198) hf hM.1 w.1 (fun _ => e3 _ _ (kf_m (kf_m hf)) hM.mt kFm.mt rfl (fun z => by cases z)) (fun z => absurd z c) (fun k' j' z1 z2 z3 z4 => absurd ⟨k', z1, z2⟩ c)
