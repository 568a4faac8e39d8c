/-! ===== finish ===== -/
/-- the first i nodes of a question done up to c -/
def qFi (Q : kAq) (q c i : Nat) : kAq := (qQ Q, qNd Q, qSh Q, qLf Q, qN Q, qKy Q, (fun s => if kRp (qSh Q q) s i = true then c else qFr Q s), qFo Q)
theorem qFi_s (Q : kAq) (q c i : Nat) : qSf (qFi Q q c i) (qSh Q q i) c = qFi Q q c (i + 1) := by
  unfold qSf qFi
  refine Prod.ext rfl (Prod.ext rfl (Prod.ext rfl (Prod.ext rfl (Prod.ext rfl (Prod.ext rfl (Prod.ext ?_ rfl))))))
  funext s
  show (if s = qSh Q q i then c else if kRp (qSh Q q) s i = true then c else qFr Q s) = (if (kRp (qSh Q q) s i || decide (qSh Q q i = s)) = true then c else qFr Q s)
  by_cases z : s = qSh Q q i
  · rw [if_pos z, decide_eq_true z.symm, Bool.or_true, if_pos rfl]
  · rw [if_neg z, decide_eq_false (fun y => z y.symm), Bool.or_false]
theorem kWq.fi {Q : kAq} {q c : Nat} (w : kWq c Q) (i : Nat) : kWq c (qFi Q q c i) := by
  refine ⟨w.1, w.2.1, w.2.2.1, fun s' hs' => ⟨(w.2.2.2.1 s' hs').1, ?_⟩, w.2.2.2.2⟩
  show (if kRp (qSh Q q) s' i = true then c else qFr Q s') ≤ c
  split
  · exact Nat.le_refl _
  · exact (w.2.2.2.1 s' hs').2
section FI
variable {A : kA} {v : Int32}
theorem ko_finish (w : kWA A) (v : Int32) : kOx (kmp1 2) 200 96 199 [.int v] A := by
  have w6 := w.2.2.1.1
  have hc := w.1.2.1
  have hN := w.2.2.1.2.1
  refine ko_ques (v := v) w (fun c g h R hf hb hC b => ?_) (fun c g h R hf hM b => ?_) (fun q ev hq hlf => ?_)
  · refine kd_in (d := 199) hf rfl rfl rfl (kd_seg (fun p => Nat.beq p 22) 20 ⟨kK hf rfl rfl, ?_⟩)
    exact kx_q hf hb hC w (fun _ => ⟨kf_new hf (by omega), b⟩) (fun sb qb st q' q4 e' hq' hl' => absurd ⟨q', e', hq', hl'⟩ c)
  · have hf0 : kf g (km_0 h) := kf_m hf
    refine kq_in (d := 199) hf rfl rfl rfl (kq_seg (fun p => Nat.beq p 19) 20 ?_)
    exact kc_isQuestion hf0 rfl hM.m0.2.2.1 w6 (fun q' e' hq' hl' => absurd ⟨q', e', hq', hl'⟩ c) (fun z => ⟨kf_m hf0, ⟨fun y => absurd rfl y, fun _ => ⟨trivial, b⟩⟩⟩)
  · obtain ⟨h1, h12⟩ := (w.2.2.1.2.2.2.2 q hq).1
    refine ⟨(A.1, A.2.1, qFi A.2.2.1 q (lC A.1) (qNd A.2.2.1 q).length, A.2.2.2), 0, 0, kp_sum (qW A.2.2.1 q (lC A.1)) (qNd A.2.2.1 q).length, ⟨w.1, w.2.1, w.2.2.1.fi _, w.2.2.2⟩, fun z => absurd rfl z, fun g h R hf hb hC e0 e1 => ?_, fun g h R hf hM e3 => ?_⟩
    · refine kd_in (d := 199) hf rfl rfl rfl (kd_seg (fun p => Nat.beq p 22) 20 ⟨kK hf rfl rfl, ?_⟩)
      refine kx_q hf hb hC w (fun z => absurd ⟨q, ev, hq, hlf⟩ z) (fun sb qb st q' q4 ev' hq' hlf' => ⟨hf, ⟨kK hf rfl rfl, ⟨kK hf (a := 2) rfl rfl, ⟨kK hf (a := 1) rfl rfl, ?_⟩⟩⟩⟩)
      rw [kIsQ_u w6 ev hq ev' hq', show ka_I h (kq_p h 1 0) 7 = nI (lC A.1) from hC.1.2.1]
      refine kq_ci (kc_worksTill (d := 196) hf q4 w.2.2.1 hc hq (by omega)) hf ?_
      have main : ∀ m i H z, i + m = (qNd A.2.2.1 q).length → kf g H → kFk h H → kcq A.1 (qFi A.2.2.1 q (lC A.1) i) sb qb st H → kd_ex g 199 96 R 22 [.ref 1, .int v, .ref (qb q), .int (kp_sum (qW A.2.2.1 q (lC A.1)) (qNd A.2.2.1 q).length), .int (nI i), z] [] H := by
        intro m
        induction m with
        | zero =>
          intro i H z hi f1 f2 f3
          have hQ : kQc H (qb q) (qNd A.2.2.1 q).length := (f3.2.2.2.2.2.2.1 q hq).1
          refine kd_seg (fun p => Nat.beq p 22) 40 ⟨by rw [hQ.2.2.1], ?_⟩
          rw [hQ.2.2.2.2.2.2.2.2.2.1]
          refine ⟨fun _ => ⟨trivial, ?_⟩, fun c => absurd c (nI_nlt (by omega) (by omega))⟩
          rw [show i = (qNd A.2.2.1 q).length by omega] at f3
          exact e1 rfl H f1 (f2.c hC f3) f2.fc
        | succ m ih =>
          intro i H z hi f1 f2 f3
          have hQ : kQc H (qb q) (qNd A.2.2.1 q).length := (f3.2.2.2.2.2.2.1 q hq).1
          obtain ⟨hp', hs, cs, h13⟩ := f3.nd (w.2.2.1.fi i) hq (k := i) (show i < (qNd A.2.2.1 q).length by omega)
          have hKb : (ka_K H (qb q)).1 = 4 := by rw [hQ.2.2.1]
          refine kd_seg (fun p => Nat.beq p 22) 40 ⟨hKb, ?_⟩
          rw [hQ.2.2.2.2.2.2.2.2.2.1]
          refine ⟨fun c => absurd (nI_lt (by omega) (by omega)) c, fun _ => ⟨hKb, ?_⟩⟩
          refine kc_qat1 f1 hQ (by omega) ⟨f1, ?_⟩
          rw [hp']
          refine ⟨fun y => absurd y cs.ne, fun _ => ⟨kK f1 (a := 1) rfl rfl, ⟨kK f1 (a := 2) rfl rfl, ⟨cs.K, ?_⟩⟩⟩⟩
          rw [show ka_I H (kq_p H 1 0) 7 = nI (lC A.1) from (f2.cl hC.1).2.1]
          have hb' := (f3.2.2.1.1 _ hs).1
          have f4 : kFk h (ka_sI H (sb (qSh (qFi A.2.2.1 q (lC A.1) i) q i)) 10 (nI (lC A.1))) := ⟨f2.1, f2.2.1, f2.2.2.1, f2.2.2.2.1, fun a a1 a2 a3 => (kI_o _ _ _ (by omega)).trans (f2.2.2.2.2 a a1 a2 a3)⟩
          have f5 := f3.fr hs (lC A.1)
          have f6 : kf g (ka_sI H (sb (qSh (qFi A.2.2.1 q (lC A.1) i) q i)) 10 (nI (lC A.1))) := kf_sI f1 (by rw [cs.K]; decide)
          rw [show qSf (qFi A.2.2.1 q (lC A.1) i) (qSh (qFi A.2.2.1 q (lC A.1) i) q i) (lC A.1) = qFi A.2.2.1 q (lC A.1) (i + 1) from qFi_s _ _ _ _] at f5
          have := ih (i + 1) _ (.ref (sb (qSh (qFi A.2.2.1 q (lC A.1) i) q i))) (by omega) f6 f4 f5
          rw [nI_succ] at this
          exact this
      have z0 : qFi A.2.2.1 q (lC A.1) 0 = A.2.2.1 := rfl
      exact main _ 0 h _ (Nat.zero_add _) hf kFk.rfl' (by rw [z0]; exact q4)
    · have hf0 : kf g (km_0 h) := kf_m hf
      have hM0 : kmA A (km_0 h) := hM.m0
      subst ev
      refine kq_in (d := 199) hf rfl rfl rfl (kq_seg (fun p => Nat.beq p 5) 10 ?_)
      have t0 : ka_I (km_0 h) 72 0 = 0 := rfl
      have g0 : kFm h (km_0 h) := kFm.m0
      refine (?_ : kq_ex g 199 199 R 5 [.ref 72, .int (nI q), .retAddr 0, .retAddr 0] [] (km_0 h))
      generalize km_0 h = H0 at hf0 hM0 t0 g0
      have main : ∀ m i H, i + m = (qNd A.2.2.1 q).length → kf g H → kFm h H → ka_I H 72 0 = 0 → kmA (A.1, A.2.1, qFi A.2.2.1 q (lC A.1) i, A.2.2.2) H → kq_ex g 199 199 R 19 [.ref 72, .int (nI q), .int (kp_sum (qW A.2.2.1 q (lC A.1)) i), .int (nI i)] [] H := by
        intro m
        induction m with
        | zero =>
          intro i H hi f1 f2 f3 f4
          have h79 : ka_I H 79 q = nI (qNd A.2.2.1 q).length := (f4.2.2.1.2.2.2.1 q hq).2.1
          refine kq_seg (fun p => Nat.beq p 19) 40 ⟨nI_in (N := 6) (by omega) (by omega), ?_⟩
          rw [nI_clamp (by omega), show ka_I H (kq_p H 72 11) q = _ from h79]
          refine ⟨fun _ => ⟨trivial, ?_⟩, fun c => absurd c (nI_nlt (by omega) (by omega))⟩
          rw [show i = (qNd A.2.2.1 q).length by omega] at f4 ⊢
          exact e3 H _ f1 f4 f2 f3 (fun _ => rfl)
        | succ m ih =>
          intro i H hi f1 f2 f3 f4
          have h79 : ka_I H 79 q = nI (qNd A.2.2.1 q).length := (f4.2.2.1.2.2.2.1 q hq).2.1
          obtain ⟨x, hx⟩ := kls_at (l := qNd A.2.2.1 q) (k := i) (by omega)
          have hs := ((w.2.2.1.2.2.2.2 q hq).2.2 i x hx).1
          have hky : (qKy A.2.2.1 (qSh A.2.2.1 q i)).1 = x.1 := by rw [((w.2.2.1.2.2.2.2 q hq).2.2 i x hx).2]; rfl
          have hx13 := ((w.2.2.1.2.2.2.2 q hq).2.1 i x hx).1.1
          have h80 : ka_I H 80 (12 * q + i) = nI x.1 := (((f4.2.2.1.2.2.2.1 q hq).2.2 i x hx).1).1
          have e12 : Int32.ofInt 12 * nI q + nI i = nI (12 * q + i) := by rw [nI_12m, nI_add]
          have wi := w.2.2.1.fi (q := q) i
          have fs : qSf (qFi A.2.2.1 q (lC A.1) i) (qSh A.2.2.1 q i) (lC A.1) = qFi A.2.2.1 q (lC A.1) (i + 1) := qFi_s _ _ _ _
          refine kq_seg (fun p => Nat.beq p 19) 60 ⟨nI_in (N := 6) (by omega) (by omega), ?_⟩
          rw [nI_clamp (by omega), show ka_I H (kq_p H 72 11) q = _ from h79]
          refine ⟨fun c => absurd (nI_lt (by omega) (by omega)) c, fun _ => ⟨by rw [e12]; exact nI_in (N := 72) (by omega) (by omega), ?_⟩⟩
          rw [e12, nI_clamp (by omega), show ka_I H (kq_p H 72 12) (12 * q + i) = _ from h80]
          refine ⟨fun y => ?_, fun y => ?_⟩
          · have y' : (qKy A.2.2.1 (qSh A.2.2.1 q i)).1 ≠ 0 := by rw [hky]; exact fun t => y (by rw [t]; rfl)
            have sA : kp_T (198 + 1) 190 [.ref 72, .int (nI q), .int (nI i)] H (kp_is (.int (nI (qSh A.2.2.1 q i))) H) := kc_shelfAt (Q := qFi A.2.2.1 q (lC A.1) i) f1 f4.2.2.1 wi hq (show i < (qNd A.2.2.1 q).length by omega)
            refine kq_ci sA f1 ⟨nI_in (N := 72) (show qSh A.2.2.1 q i < 72 by omega) (by omega), ?_⟩
            have h93 : ka_I H 93 (qSh A.2.2.1 q i) = nI (if kRp (qSh A.2.2.1 q) (qSh A.2.2.1 q i) i = true then lC A.1 else qFr A.2.2.1 (qSh A.2.2.1 q i)) := (f4.2.2.1.2.2.2.2 _ hs).1 y'
            have hfr := (w.2.2.1.2.2.2.1 _ hs).2
            rw [nI_clamp (show qSh A.2.2.1 q i < 2 ^ 31 by omega), show ka_I H (kq_p H 72 37) (qSh A.2.2.1 q i) = _ from h93, show ka_I H 72 1 = nI (lC A.1) from f4.1.2.1]
            refine kq_ci sA f1 ⟨nI_in (N := 72) (show qSh A.2.2.1 q i < 72 by omega) (by omega), ?_⟩
            rw [nI_clamp (show qSh A.2.2.1 q i < 2 ^ 31 by omega)]
            have f5 := f4.fr (s := qSh A.2.2.1 q i) (lC A.1)
            rw [show (A.1, A.2.1, qFi A.2.2.1 q (lC A.1) i, A.2.2.2).2.2.1 = qFi A.2.2.1 q (lC A.1) i from rfl, fs] at f5
            have := ih (i + 1) _ (by omega) (kf_w f1 93 rfl rfl) (f2.sI (by omega)) ((congrFun (kI_o H _ _ (by decide)) 0).trans f3) f5
            have hv : nI (lC A.1) - nI (if kRp (qSh A.2.2.1 q) (qSh A.2.2.1 q i) i = true then lC A.1 else qFr A.2.2.1 (qSh A.2.2.1 q i)) = qW A.2.2.1 q (lC A.1) i := by
              unfold qW
              cases hr : kRp (qSh A.2.2.1 q) (qSh A.2.2.1 q i) i with
              | true => rw [if_pos rfl, if_neg (fun t => by cases t.1), nI_sub (Nat.le_refl _), Nat.sub_self]; rfl
              | false => rw [if_neg (by decide), if_pos ⟨rfl, y'⟩, nI_sub hfr]
            rw [nI_succ, show kp_sum (qW A.2.2.1 q (lC A.1)) (i + 1) = kp_sum (qW A.2.2.1 q (lC A.1)) i + qW A.2.2.1 q (lC A.1) i from rfl, ← hv, ← show ka_I H 72 1 = nI (lC A.1) from f4.1.2.1] at this
            rw [← show ka_I H 72 1 = nI (lC A.1) from f4.1.2.1]
            exact this
          · have y' : (qKy A.2.2.1 (qSh A.2.2.1 q i)).1 = 0 := by rw [hky]; exact (nI_eq (b := 0) (by omega) (by omega)).mp y
            have f5 : kmA (A.1, A.2.1, qFi A.2.2.1 q (lC A.1) (i + 1), A.2.2.2) H := by
              rw [← fs]
              obtain ⟨m1, m2, ⟨m3, m4, m5, m6, m7⟩, m8⟩ := f4
              refine ⟨m1, m2, ⟨m3, m4, m5, m6, fun s' hs' => ⟨fun z => ?_, (m7 s' hs').2⟩⟩, m8⟩
              have z2 : s' ≠ qSh A.2.2.1 q i := fun t => z (by rw [t]; exact y')
              show ka_I H 93 s' = nI (if s' = qSh A.2.2.1 q i then lC A.1 else _)
              rw [if_neg z2]
              exact (m7 s' hs').1 z
            have := ih (i + 1) H (by omega) f1 f2 f3 f5
            rw [nI_succ, show kp_sum (qW A.2.2.1 q (lC A.1)) (i + 1) = kp_sum (qW A.2.2.1 q (lC A.1)) i + qW A.2.2.1 q (lC A.1) i from rfl, show qW A.2.2.1 q (lC A.1) i = 0 from if_neg (fun t => t.2 y'), Int32.add_zero] at this
            exact this
      refine kq_seg (fun p => Nat.beq p 19) 20 ?_
      refine kc_isQuestion hf0 t0 hM0.2.2.1 w6 (fun q' e' hq' hl' => ⟨hf0, ⟨fun _ => ?_, fun z => absurd z (by decide)⟩⟩) (fun z => absurd ⟨q, rfl, hq, hlf⟩ z)
      have z0 : qFi A.2.2.1 q (lC A.1) 0 = A.2.2.1 := rfl
      exact main _ 0 H0 (Nat.zero_add _) hf0 g0 t0 (by rw [z0]; exact hM0)
end FI
