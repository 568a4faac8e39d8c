/-! ===== changed, since: both sides ===== -/
/-- told, and with it the edition ahead -/
abbrev kTd2 (L : kAl) (Q : kAq) (s : Nat) (e : Int32) : Prop := kTd1 L Q s e ∧ (e = 0 ∨ kTd1 L Q s (e - 1))
noncomputable def kVal2 (A : kA) (s : Nat) (P : Prop) (e1 e2 z : Int32) : Int32 := @ite _ P (Classical.propDecidable _) (kUn (kSV (qKy A.2.2.1) (lT A.1 (lM A.1 e1)) s) (kSV (qKy A.2.2.1) (lT A.1 (lM A.1 e2)) s) 256) z
theorem kVal2_T {A : kA} {s : Nat} {P : Prop} {e1 e2 z : Int32} (h : P) : kVal2 A s P e1 e2 z = kUn (kSV (qKy A.2.2.1) (lT A.1 (lM A.1 e1)) s) (kSV (qKy A.2.2.1) (lT A.1 (lM A.1 e2)) s) 256 := if_pos h
theorem kVal2_F {A : kA} {s : Nat} {P : Prop} {e1 e2 z : Int32} (h : ¬ P) : kVal2 A s P e1 e2 z = z := if_neg h
section CH
variable {A : kA}
theorem kl_endD {h : ka_H} {L : kAl} (q : kcl L h) (w : kWl L) {e : Int32} (he : e = -1 ∨ ∃ n, e = nI n ∧ n < lC L) : kl_end h (lNn L) (lC L) e = nI (lM L e) ∧ lM L e ≤ lZ L := by
  have hc := w.2.1
  rcases he with rfl | ⟨n, rfl, hn⟩
  · rw [lM_m]
    exact ⟨kl_endM, Nat.zero_le _⟩
  · rw [lM_n (by omega)]
    exact ⟨kl_endN q w (by omega), lE_Z w hn⟩
/-- the edition ahead of a told one -/
theorem kTd2.m {s : Nat} {e : Int32} (w : kWA A) (hs : s < qN A.2.2.1) (t : kTd2 A.1 A.2.2.1 s e) : (e - 1 = -1 ∨ ∃ n, e - 1 = nI n ∧ n < lC A.1) ∧ ∃ n, e = nI n ∧ n < lC A.1 := by
  refine ⟨?_, t.1.lt w hs⟩
  rcases t.2 with y | y
  · rw [y]; exact Or.inl rfl
  · exact Or.inr (y.lt w hs)
theorem ko_changed (w : kWA A) (v u ed : Int32) : kOx kmp21 200 106 216 [.int v, .int u, .int ed] A := by
  have hc := w.1.2.1
  have w6 := w.2.2.1.1
  have hfo := w.2.2.1.2.2.1
  refine ko_gen (v := v) (P1 := fun q => kIsN (qNd A.2.2.1 q).length u) (P2 := True) (c2 := 3) (val := fun q => kVal2 A (qSh A.2.2.1 q u.toNatClampNeg) (kTd2 A.1 A.2.2.1 (qSh A.2.2.1 q u.toNatClampNeg) ed) (ed - 1) ed (Int32.ofInt (-1))) w (Or.inr rfl) (Or.inl ⟨rfl, rfl⟩) (fun _ _ => Or.inr ⟨rfl, rfl⟩) (fun z => absurd trivial z) (fun g h R hf hb hC e0 e1 e2 e3 => ?_) (kGm_of (Lc := [.ref 72, .int v, .int u, .int ed]) (fun g h R hf k => kq_in hf rfl rfl rfl (kq_seg (fun p => Nat.beq p 5) 10 k)) (fun g h R hf hM h0 e0 e1 e2 e3 => ?_))
  · refine kd_in (d := 199) hf rfl rfl rfl (kd_seg kp_no 40 ⟨kK hf rfl rfl, ?_⟩)
    refine kx_q hf hb hC w (fun z => ⟨kf_new hf (by omega), e0 z⟩) (fun sb qb st q q4 ev hq hlf => ⟨hf, ?_⟩)
    refine kx_s hf hb q4 w hq (fun z => ⟨kf_new hf (by omega), e1 q ⟨ev, hq, hlf⟩ z⟩) (fun k eu hk => ⟨hf, ?_⟩)
    have h12 := (w.2.2.1.2.2.2.2 q hq).1.2
    obtain ⟨-, hs, cs, h13⟩ := q4.nd w.2.2.1 hq hk
    have ecl : u.toNatClampNeg = k := by rw [eu, nI_clamp (by omega)]
    refine ⟨kK hf rfl rfl, ?_⟩
    refine kc_isToldOne hf hC.1 q4.1.2.2 cs h13 (w.2.2.1.F hc _ hs) (by omega) (fun t1 t2 => ⟨hf, ⟨fun _ => ⟨kK hf rfl rfl, ?_⟩, fun y => absurd y (by decide)⟩⟩) (fun t => ⟨hf, ⟨fun y => absurd rfl y, fun _ => ⟨trivial, ?_⟩⟩⟩)
    · have t : kTd2 A.1 A.2.2.1 (qSh A.2.2.1 q k) ed := ⟨t1, t2⟩
      obtain ⟨m1, m2⟩ := t.m w hs
      have l1 := kl_endD hC.1 w.1 m1
      have l2 := kl_endD hC.1 w.1 (Or.inr m2)
      refine kx_unlikeCounts eu hf hC w q4 hq hk l1.1 l1.2 l2.1 l2.2 (fun h' f1 f2 f3 => ⟨f1, ⟨trivial, ?_⟩⟩)
      have e : R (kp_ri (kVal2 A (qSh A.2.2.1 q u.toNatClampNeg) (kTd2 A.1 A.2.2.1 (qSh A.2.2.1 q u.toNatClampNeg) ed) (ed - 1) ed (Int32.ofInt (-1)))) h' := e3 q ⟨ev, hq, hlf⟩ ⟨k, eu, hk⟩ trivial h' f1 f2 f3
      rw [ecl, kVal2_T t] at e
      exact e
    · have e : R (kp_ri (kVal2 A (qSh A.2.2.1 q u.toNatClampNeg) (kTd2 A.1 A.2.2.1 (qSh A.2.2.1 q u.toNatClampNeg) ed) (ed - 1) ed (Int32.ofInt (-1)))) h := e3 q ⟨ev, hq, hlf⟩ ⟨k, eu, hk⟩ trivial h hf hC kFc.rfl'
      rw [ecl, kVal2_F t] at e
      exact e
  · refine kq_seg (fun p => Nat.beq p 42 || Nat.beq p 44) 60 ?_
    refine kc_isNode hf h0 hM.2.2.1 w.2.2.1 (fun q k ev hq hlf eu hk => ⟨hf, ⟨fun _ => ?_, fun z => absurd z (by decide)⟩⟩) (fun z => ⟨kf_m hf, ⟨fun y => absurd rfl y, fun _ => ⟨trivial, e0 z⟩⟩⟩) (fun q ev hq hlf z => ⟨kf_m hf, ⟨fun y => absurd rfl y, fun _ => ⟨trivial, e1 q ⟨ev, hq, hlf⟩ z⟩⟩⟩)
    have h12 := (w.2.2.1.2.2.2.2 q hq).1.2
    have hs := w.2.2.1.sh hq hk
    subst ev
    have ecl : u.toNatClampNeg = k := by rw [eu, nI_clamp (by omega)]
    have j42 : ¬ kTd2 A.1 A.2.2.1 (qSh A.2.2.1 q k) ed → kq_ex g 199 216 R 42 [.ref 72, .int (nI q), .int u, .int ed] [] h := fun t => by
      have e : R (kp_ri (kVal2 A (qSh A.2.2.1 q u.toNatClampNeg) (kTd2 A.1 A.2.2.1 (qSh A.2.2.1 q u.toNatClampNeg) ed) (ed - 1) ed (Int32.ofInt (-1)))) h := e3 q ⟨rfl, hq, hlf⟩ ⟨k, eu, hk⟩ trivial h hf kPq.rfl'
      rw [ecl, kVal2_F t] at e
      exact kq_seg kp_no 4 ⟨trivial, e⟩
    have j44 : kTd2 A.1 A.2.2.1 (qSh A.2.2.1 q k) ed → kq_ex g 199 216 R 44 [.ref 72, .int (nI q), .int u, .int ed] [] h := fun t => by
      obtain ⟨m1, n2, en2, hn2⟩ := t.m w hs
      refine kq_seg kp_no 20 ?_
      refine km_unlike (m1 := lM A.1 (ed - 1)) (m2 := lM A.1 ed) eu hf hM w hq hk ?_ ⟨n2, en2, hn2, by rw [en2, lM_n (by omega)]⟩ (fun h' f1 f2 => ⟨f1, ⟨trivial, ?_⟩⟩)
      · rcases m1 with y | ⟨n, y1, y2⟩
        · exact Or.inl ⟨y, by rw [y, lM_m]⟩
        · exact Or.inr ⟨n, y1, y2, by rw [y1, lM_n (by omega)]⟩
      · have e : R (kp_ri (kVal2 A (qSh A.2.2.1 q u.toNatClampNeg) (kTd2 A.1 A.2.2.1 (qSh A.2.2.1 q u.toNatClampNeg) ed) (ed - 1) ed (Int32.ofInt (-1)))) h' := e3 q ⟨rfl, hq, hlf⟩ ⟨k, eu, hk⟩ trivial h' f1 f2
        rw [ecl, kVal2_T t] at e
        exact e
    refine kc_misTold' eu hf hM.1 hM.2.2.1 w.2.2.1 hc hq hk (fun t1 => ⟨hf, ⟨fun y => absurd y (by decide), fun _ => ?_⟩⟩) (fun t => ⟨hf, ⟨fun _ => j42 (fun y => t y.1), fun y => absurd rfl y⟩⟩)
    obtain ⟨n, rfl, hn⟩ := t1.lt w hs
    refine ⟨fun y => j44 ⟨t1, Or.inl ?_⟩, fun y => ?_⟩
    · have : ¬ 0 < n := fun z => y (nI_lt (a := 0) z (by omega))
      rw [show n = 0 by omega]; rfl
    · refine kc_misTold' eu hf hM.1 hM.2.2.1 w.2.2.1 hc hq hk (fun t2 => ⟨hf, ⟨fun _ => j44 ⟨t1, Or.inr t2⟩, fun y => absurd y (by decide)⟩⟩) (fun t => ⟨hf, ⟨fun y => absurd rfl y, fun _ => j42 (fun z => z.2.elim (fun u => ?_) t)⟩⟩)
      rw [u] at y
      exact absurd y (by decide)
theorem ko_since (w : kWA A) (v u ed1 ed2 : Int32) : kOx kmp21 200 107 217 [.int v, .int u, .int ed1, .int ed2] A := by
  have hc := w.1.2.1
  have w6 := w.2.2.1.1
  refine ko_gen (v := v) (P1 := fun q => kIsN (qNd A.2.2.1 q).length u) (P2 := True) (c2 := 3) (val := fun q => kVal2 A (qSh A.2.2.1 q u.toNatClampNeg) (kTd1 A.1 A.2.2.1 (qSh A.2.2.1 q u.toNatClampNeg) ed1 ∧ kTd1 A.1 A.2.2.1 (qSh A.2.2.1 q u.toNatClampNeg) ed2) ed1 ed2 (Int32.ofInt (-1))) w (Or.inr rfl) (Or.inl ⟨rfl, rfl⟩) (fun _ _ => Or.inr ⟨rfl, rfl⟩) (fun z => absurd trivial z) (fun g h R hf hb hC e0 e1 e2 e3 => ?_) (kGm_of (Lc := [.ref 72, .int v, .int u, .int ed1, .int ed2]) (fun g h R hf k => kq_in hf rfl rfl rfl (kq_seg (fun p => Nat.beq p 5) 10 k)) (fun g h R hf hM h0 e0 e1 e2 e3 => ?_))
  · refine kd_in (d := 199) hf rfl rfl rfl (kd_seg (fun p => Nat.beq p 36) 40 ⟨kK hf rfl rfl, ?_⟩)
    refine kx_q hf hb hC w (fun z => ⟨kf_new hf (by omega), e0 z⟩) (fun sb qb st q q4 ev hq hlf => ⟨hf, ?_⟩)
    refine kx_s hf hb q4 w hq (fun z => ⟨kf_new hf (by omega), e1 q ⟨ev, hq, hlf⟩ z⟩) (fun k eu hk => ⟨hf, ?_⟩)
    have h12 := (w.2.2.1.2.2.2.2 q hq).1.2
    have ecl : u.toNatClampNeg = k := by rw [eu, nI_clamp (by omega)]
    have j36 : ¬ (kTd1 A.1 A.2.2.1 (qSh A.2.2.1 q k) ed1 ∧ kTd1 A.1 A.2.2.1 (qSh A.2.2.1 q k) ed2) → kd_ex g 199 107 R 36 [.ref 1, .int v, .int u, .int ed1, .int ed2, .ref (qb q), .ref (sb (qSh A.2.2.1 q k))] [] h := fun t => by
      have e : R (kp_ri (kVal2 A (qSh A.2.2.1 q u.toNatClampNeg) (kTd1 A.1 A.2.2.1 (qSh A.2.2.1 q u.toNatClampNeg) ed1 ∧ kTd1 A.1 A.2.2.1 (qSh A.2.2.1 q u.toNatClampNeg) ed2) ed1 ed2 (Int32.ofInt (-1)))) h := e3 q ⟨ev, hq, hlf⟩ ⟨k, eu, hk⟩ trivial h hf hC kFc.rfl'
      rw [ecl, kVal2_F t] at e
      exact kd_seg kp_no 4 ⟨trivial, e⟩
    refine ⟨kK hf rfl rfl, ?_⟩
    refine kx_told hf hC.1 w q4 hq hk (fun n1 en1 hn1 t1 => ⟨hf, ⟨fun y => absurd y (by decide), fun _ => ⟨kK hf rfl rfl, ?_⟩⟩⟩) (fun t => ⟨hf, ⟨fun _ => j36 (fun y => t y.1), fun y => absurd rfl y⟩⟩)
    refine kx_told hf hC.1 w q4 hq hk (fun n2 en2 hn2 t2 => ⟨hf, ⟨fun _ => ⟨kK hf rfl rfl, ?_⟩, fun y => absurd y (by decide)⟩⟩) (fun t => ⟨hf, ⟨fun y => absurd rfl y, fun _ => j36 (fun y => t y.2)⟩⟩)
    have l1 := kl_endD hC.1 w.1 (Or.inr ⟨n1, en1, hn1⟩)
    have l2 := kl_endD hC.1 w.1 (Or.inr ⟨n2, en2, hn2⟩)
    refine kx_unlikeCounts eu hf hC w q4 hq hk l1.1 l1.2 l2.1 l2.2 (fun h' f1 f2 f3 => ⟨f1, ⟨trivial, ?_⟩⟩)
    have e : R (kp_ri (kVal2 A (qSh A.2.2.1 q u.toNatClampNeg) (kTd1 A.1 A.2.2.1 (qSh A.2.2.1 q u.toNatClampNeg) ed1 ∧ kTd1 A.1 A.2.2.1 (qSh A.2.2.1 q u.toNatClampNeg) ed2) ed1 ed2 (Int32.ofInt (-1)))) h' := e3 q ⟨ev, hq, hlf⟩ ⟨k, eu, hk⟩ trivial h' f1 f2 f3
    rw [ecl, kVal2_T ⟨t1, t2⟩] at e
    exact e
  · refine kq_seg (fun p => Nat.beq p 49) 60 ?_
    refine kc_isNode hf h0 hM.2.2.1 w.2.2.1 (fun q k ev hq hlf eu hk => ⟨hf, ⟨fun _ => ?_, fun z => absurd z (by decide)⟩⟩) (fun z => ⟨kf_m hf, ⟨fun y => absurd rfl y, fun _ => ⟨trivial, e0 z⟩⟩⟩) (fun q ev hq hlf z => ⟨kf_m hf, ⟨fun y => absurd rfl y, fun _ => ⟨trivial, e1 q ⟨ev, hq, hlf⟩ z⟩⟩⟩)
    have h12 := (w.2.2.1.2.2.2.2 q hq).1.2
    have hs := w.2.2.1.sh hq hk
    subst ev
    have ecl : u.toNatClampNeg = k := by rw [eu, nI_clamp (by omega)]
    have j49 : ¬ (kTd1 A.1 A.2.2.1 (qSh A.2.2.1 q k) ed1 ∧ kTd1 A.1 A.2.2.1 (qSh A.2.2.1 q k) ed2) → kq_ex g 199 217 R 49 [.ref 72, .int (nI q), .int u, .int ed1, .int ed2] [] h := fun t => by
      have e : R (kp_ri (kVal2 A (qSh A.2.2.1 q u.toNatClampNeg) (kTd1 A.1 A.2.2.1 (qSh A.2.2.1 q u.toNatClampNeg) ed1 ∧ kTd1 A.1 A.2.2.1 (qSh A.2.2.1 q u.toNatClampNeg) ed2) ed1 ed2 (Int32.ofInt (-1)))) h := e3 q ⟨rfl, hq, hlf⟩ ⟨k, eu, hk⟩ trivial h hf kPq.rfl'
      rw [ecl, kVal2_F t] at e
      exact kq_seg kp_no 4 ⟨trivial, e⟩
    refine kc_misTold' eu hf hM.1 hM.2.2.1 w.2.2.1 hc hq hk (fun t1 => ⟨hf, ⟨fun y => absurd y (by decide), fun _ => ?_⟩⟩) (fun t => ⟨hf, ⟨fun _ => j49 (fun y => t y.1), fun y => absurd rfl y⟩⟩)
    refine kc_misTold' eu hf hM.1 hM.2.2.1 w.2.2.1 hc hq hk (fun t2 => ⟨hf, ⟨fun y => absurd y (by decide), fun _ => ?_⟩⟩) (fun t => ⟨hf, ⟨fun _ => j49 (fun y => t y.2), fun y => absurd rfl y⟩⟩)
    obtain ⟨n1, en1, hn1⟩ := t1.lt w hs
    obtain ⟨n2, en2, hn2⟩ := t2.lt w hs
    refine km_unlike (m1 := lM A.1 ed1) (m2 := lM A.1 ed2) eu hf hM w hq hk (Or.inr ⟨n1, en1, hn1, by rw [en1, lM_n (by omega)]⟩) ⟨n2, en2, hn2, by rw [en2, lM_n (by omega)]⟩ (fun h' f1 f2 => ⟨f1, ⟨trivial, ?_⟩⟩)
    have e : R (kp_ri (kVal2 A (qSh A.2.2.1 q u.toNatClampNeg) (kTd1 A.1 A.2.2.1 (qSh A.2.2.1 q u.toNatClampNeg) ed1 ∧ kTd1 A.1 A.2.2.1 (qSh A.2.2.1 q u.toNatClampNeg) ed2) ed1 ed2 (Int32.ofInt (-1)))) h' := e3 q ⟨rfl, hq, hlf⟩ ⟨k, eu, hk⟩ trivial h' f1 f2
    rw [ecl, kVal2_T ⟨t1, t2⟩] at e
    exact e
end CH
