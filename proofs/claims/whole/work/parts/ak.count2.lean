/-! ===== count: both sides ===== -/
section CM
variable {g : Nat × (Nat → Int32)} {d : Nat} {h : ka_H} {R : ka_R → ka_H → Prop} {v : Int32} {n : Nat} {p : Nat → Bool}
theorem kc_ml3 (hn : ka_I h 72 2 = nI n) (hnb : n ≤ 400) (ha : ∀ k, k < n → ka_I h 77 k = bI (p k)) (e : R (kp_ri (nI (kNum p n))) h) : kq_ex g d 234 R 77 [.ref 72, .int v, .int (nI (kNum p 0)), .int (nI 0)] [] h := by
  have main : ∀ m k, k + m = n → kq_ex g d 234 R 77 [.ref 72, .int v, .int (nI (kNum p k)), .int (nI k)] [] h := by
    intro m
    induction m with
    | zero =>
      intro k hk
      refine kq_seg (fun p => Nat.beq p 77) 40 ⟨fun _ => ⟨trivial, ?_⟩, fun y => ?_⟩
      · rw [show k = n by omega]; exact e
      · have y' : nI k < nI n := by rw [← hn]; exact y
        exact absurd y' (nI_nlt (by omega) (by omega))
    | succ m ih =>
      intro k hk
      have nx : ∀ b : Int32, b = bI (p k) → kq_ex g d 234 R 100 [.ref 72, .int v, .int (nI (kNum p k)), .int (nI k)] [.int b, .int (nI (kNum p k))] h := fun b hb => by
        refine kq_seg (fun p => Nat.beq p 77) 10 ?_
        have := ih (k + 1) (by omega)
        rw [nI_succ, ← kNum_s hb] at this
        exact this
      refine kq_seg (fun p => Nat.beq p 77 || Nat.beq p 100) 40 ⟨fun y => absurd (show nI k < ka_I h 72 2 by rw [hn]; exact nI_lt (by omega) (by omega)) y, fun _ => ⟨nI_in (N := 400) (by omega) (by omega), ?_⟩⟩
      rw [nI_clamp (by omega), show ka_I h (kq_p h 72 8) k = _ from ha k (by omega)]
      cases hb : p k with
      | true => exact ⟨fun y => absurd y (by decide), fun _ => nx 1 (by rw [hb]; rfl)⟩
      | false => exact ⟨fun _ => nx 0 (by rw [hb]; rfl), fun y => absurd rfl y⟩
  exact main _ 0 (Nat.zero_add _)
theorem kc_ml4 (hn : ka_I h 72 9 = nI n) (hnb : n ≤ 6) (ha : ∀ k, k < n → ka_I h 78 k = bI (!p k)) (e : R (kp_ri (nI (kNum p n))) h) : kq_ex g d 234 R 112 [.ref 72, .int v, .int (nI (kNum p 0)), .int (nI 0)] [] h := by
  have main : ∀ m k, k + m = n → kq_ex g d 234 R 112 [.ref 72, .int v, .int (nI (kNum p k)), .int (nI k)] [] h := by
    intro m
    induction m with
    | zero =>
      intro k hk
      refine kq_seg (fun p => Nat.beq p 112) 40 ⟨fun _ => ⟨trivial, ?_⟩, fun y => ?_⟩
      · rw [show k = n by omega]; exact e
      · have y' : nI k < nI n := by rw [← hn]; exact y
        exact absurd y' (nI_nlt (by omega) (by omega))
    | succ m ih =>
      intro k hk
      have nx : ∀ b : Int32, b = bI (p k) → kq_ex g d 234 R 135 [.ref 72, .int v, .int (nI (kNum p k)), .int (nI k)] [.int b, .int (nI (kNum p k))] h := fun b hb => by
        refine kq_seg (fun p => Nat.beq p 112) 10 ?_
        have := ih (k + 1) (by omega)
        rw [nI_succ, ← kNum_s hb] at this
        exact this
      refine kq_seg (fun p => Nat.beq p 112 || Nat.beq p 135) 40 ⟨fun y => absurd (show nI k < ka_I h 72 9 by rw [hn]; exact nI_lt (by omega) (by omega)) y, fun _ => ⟨nI_in (N := 6) (by omega) (by omega), ?_⟩⟩
      rw [nI_clamp (by omega), show ka_I h (kq_p h 72 10) k = _ from ha k (by omega)]
      cases hb : p k with
      | true => exact ⟨fun _ => nx 1 (by rw [hb]; rfl), fun y => absurd rfl y⟩
      | false => exact ⟨fun y => absurd y (by decide), fun _ => nx 0 (by rw [hb]; rfl)⟩
  exact main _ 0 (Nat.zero_add _)
theorem kc_ml5 (hn : ka_I h 72 34 = nI n) (hnb : n ≤ 72) (ha : ∀ k, k < n → ka_I h 94 k = bI (p k)) (e : R (kp_ri (nI (kNum p n))) h) : kq_ex g d 234 R 147 [.ref 72, .int v, .int (nI (kNum p 0)), .int (nI 0)] [] h := by
  have main : ∀ m k, k + m = n → kq_ex g d 234 R 147 [.ref 72, .int v, .int (nI (kNum p k)), .int (nI k)] [] h := by
    intro m
    induction m with
    | zero =>
      intro k hk
      refine kq_seg (fun p => Nat.beq p 147) 40 ⟨fun _ => ⟨trivial, ?_⟩, fun y => ?_⟩
      · rw [show k = n by omega]; exact e
      · have y' : nI k < nI n := by rw [← hn]; exact y
        exact absurd y' (nI_nlt (by omega) (by omega))
    | succ m ih =>
      intro k hk
      have nx : ∀ b : Int32, b = bI (p k) → kq_ex g d 234 R 170 [.ref 72, .int v, .int (nI (kNum p k)), .int (nI k)] [.int b, .int (nI (kNum p k))] h := fun b hb => by
        refine kq_seg (fun p => Nat.beq p 147) 10 ?_
        have := ih (k + 1) (by omega)
        rw [nI_succ, ← kNum_s hb] at this
        exact this
      refine kq_seg (fun p => Nat.beq p 147 || Nat.beq p 170) 40 ⟨fun y => absurd (show nI k < ka_I h 72 34 by rw [hn]; exact nI_lt (by omega) (by omega)) y, fun _ => ⟨nI_in (N := 72) (by omega) (by omega), ?_⟩⟩
      rw [nI_clamp (by omega), show ka_I h (kq_p h 72 38) k = _ from ha k (by omega)]
      cases hb : p k with
      | true => exact ⟨fun y => absurd y (by decide), fun _ => nx 1 (by rw [hb]; rfl)⟩
      | false => exact ⟨fun _ => nx 0 (by rw [hb]; rfl), fun y => absurd rfl y⟩
  exact main _ 0 (Nat.zero_add _)
theorem kc_ml7 (hn : ka_I h 72 44 = nI n) (hnb : n ≤ 8) (ha : ∀ k, k < n → ka_I h 100 k = bI (!p k)) (e : R (kp_ri (nI (kNum p n))) h) : kq_ex g d 234 R 187 [.ref 72, .int v, .int (nI (kNum p 0)), .int (nI 0)] [] h := by
  have main : ∀ m k, k + m = n → kq_ex g d 234 R 187 [.ref 72, .int v, .int (nI (kNum p k)), .int (nI k)] [] h := by
    intro m
    induction m with
    | zero =>
      intro k hk
      refine kq_seg (fun p => Nat.beq p 187) 40 ⟨fun _ => ⟨trivial, ?_⟩, fun y => ?_⟩
      · rw [show k = n by omega]; exact e
      · have y' : nI k < nI n := by rw [← hn]; exact y
        exact absurd y' (nI_nlt (by omega) (by omega))
    | succ m ih =>
      intro k hk
      have nx : ∀ b : Int32, b = bI (p k) → kq_ex g d 234 R 210 [.ref 72, .int v, .int (nI (kNum p k)), .int (nI k)] [.int b, .int (nI (kNum p k))] h := fun b hb => by
        refine kq_seg (fun p => Nat.beq p 187) 10 ?_
        have := ih (k + 1) (by omega)
        rw [nI_succ, ← kNum_s hb] at this
        exact this
      refine kq_seg (fun p => Nat.beq p 187 || Nat.beq p 210) 40 ⟨fun y => absurd (show nI k < ka_I h 72 44 by rw [hn]; exact nI_lt (by omega) (by omega)) y, fun _ => ⟨nI_in (N := 8) (by omega) (by omega), ?_⟩⟩
      rw [nI_clamp (by omega), show ka_I h (kq_p h 72 46) k = _ from ha k (by omega)]
      cases hb : p k with
      | true => exact ⟨fun _ => nx 1 (by rw [hb]; rfl), fun y => absurd rfl y⟩
      | false => exact ⟨fun y => absurd y (by decide), fun _ => nx 0 (by rw [hb]; rfl)⟩
  exact main _ 0 (Nat.zero_add _)
end CM
/-- what count tells -/
def kCt (A : kA) (j : Nat) : Int32 := if j = 0 then nI (lC A.1) else if j = 1 then nI (lNn A.1) else if j = 2 then nI (lNn A.1 - lZ A.1) else if j = 3 then kp_sum (lLa A.1) (lNn A.1) else if j = 4 then nI (kNum (fun q => !qLf A.2.2.1 q) (qQ A.2.2.1)) else if j = 5 then nI (kNum (qLv A.2.2.1) (qN A.2.2.1)) else if j = 6 then nI (qFo A.2.2.1) else if j = 7 then nI (kNum (fun k => !rG A.2.2.2 k) (rN A.2.2.2)) else nI (tF A.2.1)
section CU
variable {A : kA}
theorem ko_count (w : kWA A) (v : Int32) : kOx (fun _ _ => False) 200 116 234 [.int v] A := by
  have w6 := w.2.2.1.1
  have hN := w.2.2.1.2.1
  have hn := w.1.1
  have hc := w.1.2.1
  by_cases c : kIsN 9 v
  · obtain ⟨j, rfl, hj⟩ := c
    refine ⟨A, 0, 0, kCt A j, w, fun z => absurd rfl z, fun g h R hf hb hC e0 e1 => ?_, fun g h R hf hM e3 => ?_⟩
    · have e := e1 rfl h hf hC kFc.rfl'
      obtain ⟨q1, q2, q3, sb, qb, st, q4⟩ := hC
      refine kq_in (d := 199) hf rfl rfl rfl (kq_seg (fun p => Nat.beq p 1) 1 ?_)
      refine kq_tsw (lo := 0) rfl rfl (Nat.zero_le _) (by omega) (by decide) ?_
      rcases (by omega : j = 0 ∨ j = 1 ∨ j = 2 ∨ j = 3 ∨ j = 4 ∨ j = 5 ∨ j = 6 ∨ j = 7 ∨ j = 8) with z | z | z | z | z | z | z | z | z <;> subst z
      · refine (kq_seg kp_no 10 ⟨trivial, ?_⟩ : kq_ex g 199 116 R 52 [.ref 1, .int (nI 0)] [] h)
        show R (kp_ri (ka_I h 2 7)) h
        rw [q1.2.1]; exact e
      · refine (kq_seg kp_no 10 ⟨trivial, ?_⟩ : kq_ex g 199 116 R 60 [.ref 1, .int (nI 1)] [] h)
        show R (kp_ri (ka_I h 2 6)) h
        rw [q1.1]; exact e
      · refine (kq_seg kp_no 10 ?_ : kq_ex g 199 116 R 68 [.ref 1, .int (nI 2)] [] h)
        refine kq_ci (kc_toldOpen hf q1.1 q1.2.1 hc) hf ⟨trivial, ?_⟩
        rw [kl_endZ q1 w.1, nI_sub (lZ_le w.1)]; exact e
      · refine (kq_seg kp_no 10 ?_ : kq_ex g 199 116 R 76 [.ref 1, .int (nI 3)] [] h)
        exact kq_ci (kc_toldLate hf q1 hn) hf ⟨trivial, e⟩
      · refine (kq_seg kp_no 10 ?_ : kq_ex g 199 116 R 84 [.ref 1, .int (nI 4)] [] h)
        exact kq_ci (kc_notLeft hf q4 w6) hf ⟨trivial, e⟩
      · refine (kq_seg kp_no 10 ?_ : kq_ex g 199 116 R 89 [.ref 1, .int (nI 5)] [] h)
        exact kq_ci (kc_shelvesAre hf q4 (by omega) w6) hf ⟨trivial, e⟩
      · refine (kq_seg kp_no 10 ⟨trivial, ?_⟩ : kq_ex g 199 116 R 94 [.ref 1, .int (nI 6)] [] h)
        show R (kp_ri (ka_I h 1 11)) h
        rw [q4.1.2.2]; exact e
      · refine (kq_seg kp_no 10 ?_ : kq_ex g 199 116 R 99 [.ref 1, .int (nI 7)] [] h)
        exact kq_ci (kc_readersHold hf q3 w.2.2.2) hf ⟨trivial, e⟩
      · refine (kq_seg kp_no 10 ⟨trivial, ?_⟩ : kq_ex g 199 116 R 104 [.ref 1, .int (nI 8)] [] h)
        show R (kp_ri (ka_I h 9 1)) h
        rw [q2.1]; exact e
    · have hf0 : kf g (km_0 h) := kf_m hf
      have hM0 : kmA A (km_0 h) := hM.m0
      have e := e3 (km_0 h) (kCt A j) hf0 hM0 kFm.m0 rfl (fun _ => rfl)
      refine kq_in (d := 199) hf rfl rfl rfl (kq_seg (fun p => Nat.beq p 8) 10 ?_)
      refine (?_ : kq_ex g 199 234 R 8 [.ref 72, .int (nI j), .int 0, .retAddr 0] [.int (nI j)] (km_0 h))
      generalize km_0 h = H at hf0 hM0 e
      obtain ⟨m1, m2, m3, m4⟩ := hM0
      refine kq_tsw (lo := 0) rfl rfl (Nat.zero_le _) (by omega) (by decide) ?_
      rcases (by omega : j = 0 ∨ j = 1 ∨ j = 2 ∨ j = 3 ∨ j = 4 ∨ j = 5 ∨ j = 6 ∨ j = 7 ∨ j = 8) with z | z | z | z | z | z | z | z | z <;> subst z
      · refine (kq_seg kp_no 10 ⟨trivial, ?_⟩ : kq_ex g 199 234 R 60 [.ref 72, .int (nI 0), .int 0, .retAddr 0] [] H)
        show R (kp_ri (ka_I H 72 1)) H
        rw [m1.2.1]; exact e
      · refine (kq_seg kp_no 10 ⟨trivial, ?_⟩ : kq_ex g 199 234 R 65 [.ref 72, .int (nI 1), .int 0, .retAddr 0] [] H)
        show R (kp_ri (ka_I H 72 2)) H
        rw [m1.1]; exact e
      · refine (kq_seg kp_no 10 ?_ : kq_ex g 199 234 R 70 [.ref 72, .int (nI 2), .int 0, .retAddr 0] [] H)
        refine kq_ci (kc_openMany hf0 m1.1 hn) hf0 ⟨trivial, ?_⟩
        rw [show kp_sum (km_open H) (lNn A.1) = nI (lNn A.1 - lZ A.1) from (kp_sum_cg _ (fun k hk => by unfold km_open; rw [(m1.2.2.2 k hk).2.2.2.1, m1.2.1])).trans (lZ_open w.1)]
        exact e
      · refine (kq_seg (fun p => Nat.beq p 77) 10 ?_ : kq_ex g 199 234 R 75 [.ref 72, .int (nI 3), .int 0, .retAddr 0] [] H)
        have hla : ∀ k, k < lNn A.1 → lLa A.1 k = bI (decide (lLa A.1 k = 1)) := fun k hk => by
          rcases (w.1.2.2.1 k hk).2.2.2 with z | z
          · rw [z]; rfl
          · rw [z]; rfl
        refine kc_ml3 (p := fun k => decide (lLa A.1 k = 1)) (n := lNn A.1) m1.1 hn (fun k hk => by rw [(m1.2.2.2 k hk).2.2.2.2]; exact hla k hk) ?_
        rw [← kp_sum_num, kp_sum_cg (f := fun k => if decide (lLa A.1 k = 1) = true then 1 else 0) (f' := lLa A.1) _ (fun k hk => (hla k hk).symm)]
        exact e
      · refine (kq_seg (fun p => Nat.beq p 112) 10 ?_ : kq_ex g 199 234 R 110 [.ref 72, .int (nI 4), .int 0, .retAddr 0] [] H)
        exact kc_ml4 (p := fun q => !qLf A.2.2.1 q) (n := qQ A.2.2.1) m3.1 w6 (fun k hk => by rw [(m3.2.2.2.1 k hk).1, Bool.not_not]) e
      · refine (kq_seg (fun p => Nat.beq p 147) 10 ?_ : kq_ex g 199 234 R 145 [.ref 72, .int (nI 5), .int 0, .retAddr 0] [] H)
        exact kc_ml5 (p := qLv A.2.2.1) (n := qN A.2.2.1) m3.2.1 (by omega) (fun k hk => (m3.2.2.2.2 k hk).2.1) e
      · refine (kq_seg kp_no 10 ⟨trivial, ?_⟩ : kq_ex g 199 234 R 180 [.ref 72, .int (nI 6), .int 0, .retAddr 0] [] H)
        show R (kp_ri (ka_I H 72 35)) H
        rw [m3.2.2.1]; exact e
      · refine (kq_seg (fun p => Nat.beq p 187) 10 ?_ : kq_ex g 199 234 R 185 [.ref 72, .int (nI 7), .int 0, .retAddr 0] [] H)
        exact kc_ml7 (p := fun k => !rG A.2.2.2 k) (n := rN A.2.2.2) m4.1 w.2.2.2.1 (fun k hk => by rw [(m4.2.1 k hk).2, Bool.not_not]) e
      · refine (kq_seg kp_no 10 ⟨trivial, ?_⟩ : kq_ex g 199 234 R 220 [.ref 72, .int (nI 8), .int 0, .retAddr 0] [] H)
        show R (kp_ri (ka_I H 72 21)) H
        rw [m2.1]; exact e
  · have no : ∀ i, i < 9 → ¬ v = nI (0 + i) := fun i hi e => c ⟨i, by rw [Nat.zero_add] at e; exact e, hi⟩
    refine ⟨A, 0, 0, -1, w, fun z => absurd rfl z, fun g h R hf hb hC e0 e1 => ?_, fun g h R hf hM e3 => ?_⟩
    · refine kq_in (d := 199) hf rfl rfl rfl (kq_seg (fun p => Nat.beq p 1) 1 ?_)
      refine kq_tswN (lo := 0) rfl rfl no ?_
      exact (kq_seg kp_no 10 ⟨trivial, e1 rfl h hf hC kFc.rfl'⟩ : kq_ex g 199 116 R 112 [.ref 1, .int v] [] h)
    · have hf0 : kf g (km_0 h) := kf_m hf
      refine kq_in (d := 199) hf rfl rfl rfl (kq_seg (fun p => Nat.beq p 8) 10 ?_)
      refine kq_tswN (lo := 0) rfl rfl no ?_
      exact (kq_seg kp_no 10 ⟨trivial, e3 _ _ hf0 hM.m0 kFm.m0 rfl (fun _ => rfl)⟩ : kq_ex g 199 234 R 225 [.ref 72, .int v, .int 0, .retAddr 0] [] (km_0 h))
end CU
