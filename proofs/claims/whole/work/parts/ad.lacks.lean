/-! ===== lacks, finish ===== -/
/-- what a call of the class leaves that makes nothing: all but its counts -/
def kFk (h H : ka_H) : Prop := H.1 = h.1 ∧ H.2.1 = h.2.1 ∧ (∀ a, ka_K H a = ka_K h a) ∧ (∀ a, ka_P H a = ka_P h a) ∧ ∀ a, a < 103 → a ≠ 65 → a ≠ 66 → ka_I H a = ka_I h a
theorem kFk.rfl' {h : ka_H} : kFk h h := ⟨rfl, rfl, fun _ => rfl, fun _ => rfl, fun _ _ _ _ => rfl⟩
theorem kFk.tr {h h1 h2 : ka_H} (a : kFk h h1) (b : kFk h1 h2) : kFk h h2 := ⟨b.1.trans a.1, b.2.1.trans a.2.1, fun x => (b.2.2.1 x).trans (a.2.2.1 x), fun x => (b.2.2.2.1 x).trans (a.2.2.2.1 x), fun x x1 x2 x3 => (b.2.2.2.2 x x1 x2 x3).trans (a.2.2.2.2 x x1 x2 x3)⟩
theorem kFk.fc {h H : ka_H} (f : kFk h H) : kFc h H := ⟨by rw [f.1]; omega, by rw [f.2.1]; omega, fun a a1 a2 => f.2.2.2.2 a (by omega) (by omega) (by omega)⟩
theorem kFk.cl {h H : ka_H} {L : kAl} (f : kFk h H) (q : kcl L h) : kcl L H := q.st (fun a a1 a2 => f.2.2.2.2 a (by omega) (by omega) (by omega))
theorem kFk.c {h H : ka_H} {A : kA} {Q' : kAq} {sb qb st : Nat → Nat} (f : kFk h H) (hC : kcA A h) (q4 : kcq A.1 Q' sb qb st H) : kcA (A.1, A.2.1, Q', A.2.2.2) H := ⟨f.cl hC.1, hC.2.1.st (fun a a1 a2 => f.2.2.2.2 a (by omega) (by omega) (by omega)), hC.2.2.1.st (by rw [f.2.2.2.2 1 (by omega) (by omega) (by omega)]) (f.2.2.2.2 70 (by omega) (by omega) (by omega)), sb, qb, st, q4⟩
/-- how often a node's shelf is to be worked till it is done up to F -/
def qW (Q : kAq) (q F k : Nat) : Int32 := if kRp (qSh Q q) (qSh Q q k) k = false ∧ (qKy Q (qSh Q q k)).1 ≠ 0 then nI (F - qFr Q (qSh Q q k)) else 0
theorem qW_max {F f : Nat} (h1 : F ≤ 101) (h2 : f ≤ 100) : (if (0 : Int32) < nI F - nI f then nI F - nI f else 0) = nI (F - f) := by
  rcases Nat.lt_or_ge f F with z | z
  · rw [nI_sub (by omega), if_pos (show (0 : Int32) < nI (F - f) from nI_lt (a := 0) (b := F - f) (by omega) (by omega))]
  · rw [show F - f = 0 by omega, if_neg ?_]
    · rfl
    · intro y
      have h3 := Int32.lt_iff_toInt_lt.mp y
      have h4 : nI F - nI f = - nI (f - F) := by
        rw [← nI_sub z]
        exact (Int32.neg_sub).symm
      rw [h4] at h3
      have h5 : (- nI (f - F)).toInt ≤ 0 := (by decide +kernel : ∀ k, k < 101 → (- nI k).toInt ≤ 0) (f - F) (by omega)
      have h6 : (0 : Int) < (- nI (f - F)).toInt := h3
      omega
section LK
variable {g : Nat × (Nat → Int32)} {d : Nat} {h : ka_H} {R : ka_R → ka_H → Prop} {L : kAl} {Q : kAq} {sb qb st : Nat → Nat} {q c F : Nat}
theorem kc_worksTill (hf : kf g h) (w : kcq L Q sb qb st h) (wq : kWq c Q) (hc : c ≤ 100) (hq : q < qQ Q) (hF : F ≤ 101) : kp_T (d + 3) 131 [.ref 1, .ref (qb q), .int (nI F)] h (kp_is (.int (kp_sum (qW Q q F) (qNd Q q).length)) h) := by
  have cq := w.2.2.2.2.2.2.1 q hq
  have hQ := cq.1
  obtain ⟨h1, h12⟩ := (wq.2.2.2.2 q hq).1
  have hKb : (ka_K h (qb q)).1 = 4 := by rw [hQ.2.2.1]
  have hQn := hQ.2.2.2.2.2.2.2.2.2.1
  have main : ∀ m i z, i + m = (qNd Q q).length → kd_ex g (d + 2) 131 (kp_is (.int (kp_sum (qW Q q F) (qNd Q q).length)) h) 5 [.ref 1, .ref (qb q), .int (nI F), .int (kp_sum (qW Q q F) i), .int (nI i), z] [] h := by
    intro m
    induction m with
    | zero =>
      intro i z hi
      refine kd_seg (fun p => Nat.beq p 5) 40 ⟨hKb, ?_⟩
      rw [hQn]
      refine ⟨fun _ => ⟨trivial, ?_, rfl⟩, fun c => absurd c (nI_nlt (by omega) (by omega))⟩
      rw [show i = (qNd Q q).length by omega]
    | succ m ih =>
      intro i z hi
      obtain ⟨hp', hs, cs, h13⟩ := w.nd wq hq (k := i) (by omega)
      obtain ⟨x, hx⟩ := kls_at (l := qNd Q q) (k := i) (by omega)
      have h3 := (cq.2.2.2 i x hx).2.2
      have nx : ∀ z, qW Q q F i = 0 → kd_ex g (d + 2) 131 (kp_is (.int (kp_sum (qW Q q F) (qNd Q q).length)) h) 5 [.ref 1, .ref (qb q), .int (nI F), .int (kp_sum (qW Q q F) i), .int (nI i + 1), z] [] h := fun z e => by
        have := ih (i + 1) z (by omega)
        rw [nI_succ, show kp_sum (qW Q q F) (i + 1) = kp_sum (qW Q q F) i + qW Q q F i from rfl, e, Int32.add_zero] at this
        exact this
      refine kd_seg (fun p => Nat.beq p 5) 40 ⟨hKb, ?_⟩
      rw [hQn]
      refine ⟨fun c => absurd (nI_lt (by omega) (by omega)) c, fun _ => ⟨hKb, ?_⟩⟩
      refine kc_firstAt (rp := fun k => kRp (qSh Q q) (qSh Q q k) k) hf hQ (by omega) (by rw [hp']; exact cs.ne) h3 (fun e => ⟨hf, ⟨fun _ => nx _ ?_, fun y => absurd rfl y⟩⟩) (fun e => ⟨hf, ?_⟩)
      · exact if_neg (fun y => by rw [y.1] at e; cases e)
      · rw [hp']
        refine ⟨fun y => absurd y cs.ne, fun _ => ⟨cs.K, ?_⟩⟩
        rw [cs.p1 hf]
        refine ⟨⟨(show 1000000 + (qKy Q (qSh Q q i)).1 < 1000014 by omega), by decide⟩, fun y => nx _ (if_neg (fun t => t.2 (by have : 1000000 + (qKy Q (qSh Q q i)).1 = 1000000 := y; omega))), fun y => ⟨cs.K, ?_⟩⟩
        · have y' : (qKy Q (qSh Q q i)).1 ≠ 0 := fun t => y (by rw [t])
          have hfr := (wq.2.2.2.1 _ hs).2
          rw [cs.2.1 y']
          refine kq_ci (kc_max hf) hf ?_
          rw [show (if Int32.ofInt 0 < nI F - nI (qFr Q (qSh Q q i)) then nI F - nI (qFr Q (qSh Q q i)) else Int32.ofInt 0) = nI (F - qFr Q (qSh Q q i)) from qW_max hF (by omega)]
          have := ih (i + 1) (.ref (sb (qSh Q q i))) (by omega)
          rw [nI_succ, show kp_sum (qW Q q F) (i + 1) = kp_sum (qW Q q F) i + nI (F - qFr Q (qSh Q q i)) by show _ + qW Q q F i = _; rw [show qW Q q F i = nI (F - qFr Q (qSh Q q i)) from if_pos ⟨e, y'⟩]] at this
          exact this
  refine kd_in hf rfl rfl rfl (kd_seg (fun p => Nat.beq p 5) 20 ?_)
  exact main _ 0 _ (Nat.zero_add _)
end LK
section LK2
variable {A : kA} {v u : Int32}
theorem ko_lacks (w : kWA A) (v u : Int32) : kOx (kmp1 2) 200 98 231 [.int v, .int u] A := by
  have w6 := w.2.2.1.1
  have hc := w.1.2.1
  have hN := w.2.2.1.2.1
  refine ko_ques (v := v) w (fun c g h R hf hb hC b => ?_) (fun c g h R hf hM b => ?_) (fun q ev hq hlf => ?_)
  · refine kd_in (d := 199) hf rfl rfl rfl (kd_seg kp_no 20 ⟨kK hf rfl rfl, ?_⟩)
    exact kx_q hf hb hC w (fun _ => ⟨kf_new hf (by omega), b⟩) (fun sb qb st q' q4 e' hq' hl' => absurd ⟨q', e', hq', hl'⟩ c)
  · have hf0 : kf g (km_0 h) := kf_m hf
    refine kq_in (d := 199) hf rfl rfl rfl (kq_seg (fun p => Nat.beq p 36) 20 ?_)
    exact kc_isQuestion hf0 rfl hM.m0.2.2.1 w6 (fun q' e' hq' hl' => absurd ⟨q', e', hq', hl'⟩ c) (fun z => ⟨kf_m hf0, ⟨fun y => absurd rfl y, fun _ => ⟨trivial, b⟩⟩⟩)
  · obtain ⟨h1, h12⟩ := (w.2.2.1.2.2.2.2 q hq).1
    have hF := w.2.2.1.F hc
    have hiff := kIsN_iff (v := u) (n := lC A.1) (by omega)
    have hiff2 : (0 ≤ u ∧ u < nI (lC A.1)) ↔ kIsN (lC A.1) u := by
      refine ⟨fun z => ?_, fun ⟨k, e, hk⟩ => ?_⟩
      · obtain ⟨k, hk, e⟩ := i32_nat (Int32.not_lt.mpr z.1) z.2 (by omega)
        exact ⟨k, e, hk⟩
      · rw [e]; exact ⟨Int32.not_lt.mp (nI_n0 (by omega)), nI_lt hk (by omega)⟩
    have cx : ∀ (g : Nat × (Nat → Int32)) (h : ka_H) (R : ka_R → ka_H → Prop), kf g h → h.1 + 64 ≤ 1000000 → kcA A h → (¬ kIsN (lC A.1) u → R (kp_ri (-1)) h) → (∀ n, u = nI n → n < lC A.1 → R (kp_ri (kp_sum (qW A.2.2.1 q (n + 1)) (qNd A.2.2.1 q).length)) h) → kp_T 200 98 [.ref 1, .int v, .int u] h R := by
      intro g h R hf hb hC e0 e1
      refine kd_in (d := 199) hf rfl rfl rfl (kd_seg kp_no 20 ⟨kK hf rfl rfl, ?_⟩)
      refine kx_q hf hb hC w (fun z => absurd ⟨q, ev, hq, hlf⟩ z) (fun sb qb st q' q4 ev' hq' hlf' => ⟨hf, ⟨kK hf rfl rfl, ⟨kK hf (a := 2) rfl rfl, ?_⟩⟩⟩)
      rw [kIsQ_u w6 ev hq ev' hq']
      refine kq_ci (kc_isClosed hf) hf ?_
      rw [hC.1.2.1]
      by_cases z : kIsN (lC A.1) u
      · rw [kp_bT (hiff2.mpr z)]
        obtain ⟨n, rfl, hn⟩ := z
        refine ⟨fun y => absurd y (by decide), fun _ => ⟨kK hf rfl rfl, ?_⟩⟩
        have wt := kc_worksTill (d := 196) (F := n + 1) hf q4 w.2.2.1 hc hq (by omega)
        rw [nI_succ] at wt
        exact kq_ci wt hf ⟨trivial, e1 n rfl hn⟩
      · rw [kp_bF (fun y => z (hiff2.mp y))]
        exact ⟨fun _ => ⟨trivial, e0 z⟩, fun y => absurd rfl y⟩
    have cm : ∀ (g : Nat × (Nat → Int32)) (h : ka_H) (R : ka_R → ka_H → Prop), kf g h → kmA A h → (¬ kIsN (lC A.1) u → R (kp_ri (-1)) (km_0 h)) → (∀ n, u = nI n → n < lC A.1 → R (kp_ri (kp_sum (qW A.2.2.1 q (n + 1)) (qNd A.2.2.1 q).length)) (km_0 h)) → kp_T 200 231 [.ref 72, .int v, .int u] h R := by
      intro g h R hf hM e0 e1
      have hf0 : kf g (km_0 h) := kf_m hf
      have hM0 : kmA A (km_0 h) := hM.m0
      subst ev
      refine kq_in (d := 199) hf rfl rfl rfl (kq_seg (fun p => Nat.beq p 5) 10 ?_)
      have t0 : ka_I (km_0 h) 72 0 = 0 := rfl
      have e0' : ¬ kIsN (lC A.1) u → R (kp_ri (-1)) (km_0 h) := e0
      have e1' : ∀ n, u = nI n → n < lC A.1 → R (kp_ri (kp_sum (qW A.2.2.1 q (n + 1)) (qNd A.2.2.1 q).length)) (km_0 h) := e1
      refine (?_ : kq_ex g 199 231 R 5 [.ref 72, .int (nI q), .int u, .retAddr 0, .retAddr 0, .retAddr 0, .retAddr 0] [] (km_0 h))
      generalize km_0 h = H at hf0 hM0 t0 e0' e1'
      have h79 : ka_I H 79 q = nI (qNd A.2.2.1 q).length := (hM0.2.2.1.2.2.2.1 q hq).2.1
      refine kq_seg (fun p => Nat.beq p 36) 30 ?_
      refine kc_isQuestion hf0 t0 hM0.2.2.1 w6 (fun q' e' hq' hl' => ⟨hf0, ⟨fun _ => ?_, fun z => absurd z (by decide)⟩⟩) (fun z => absurd ⟨q, rfl, hq, hlf⟩ z)
      refine kq_ci kc_within hf0 ?_
      rw [show ka_I H 72 1 = nI (lC A.1) from hM0.1.2.1]
      by_cases z : kIsN (lC A.1) u
      · rw [kp_bT (show Int32.ofInt 0 ≤ u ∧ u ≤ nI (lC A.1) - Int32.ofInt 1 from hiff.mpr z)]
        refine ⟨fun _ => ?_, fun y => absurd y (by decide)⟩
        obtain ⟨n, rfl, hn⟩ := z
        have e1n := e1' n rfl hn
        have main : ∀ m i z5 z6, i + m = (qNd A.2.2.1 q).length → kq_ex g 199 231 R 36 [.ref 72, .int (nI q), .int (nI n), .int (kp_sum (qW A.2.2.1 q (n + 1)) i), .int (nI i), z5, z6] [] H := by
          intro m
          induction m with
          | zero =>
            intro i z5 z6 hi
            refine kq_seg (fun p => Nat.beq p 36 || Nat.beq p 72) 40 ⟨nI_in (N := 6) (by omega) (by omega), ?_⟩
            rw [nI_clamp (by omega), show ka_I H (kq_p H 72 11) q = _ from h79]
            refine ⟨fun _ => ⟨trivial, ?_⟩, fun c => absurd c (nI_nlt (by omega) (by omega))⟩
            rw [show i = (qNd A.2.2.1 q).length by omega]
            exact e1n
          | succ m ih =>
            intro i z5 z6 hi
            obtain ⟨x, hx⟩ := kls_at (l := qNd A.2.2.1 q) (k := i) (by omega)
            have hs := ((w.2.2.1.2.2.2.2 q hq).2.2 i x hx).1
            have hky : (qKy A.2.2.1 (qSh A.2.2.1 q i)).1 = x.1 := by rw [((w.2.2.1.2.2.2.2 q hq).2.2 i x hx).2]; rfl
            have hx13 := ((w.2.2.1.2.2.2.2 q hq).2.1 i x hx).1.1
            have h80 : ka_I H 80 (12 * q + i) = nI x.1 := (((hM0.2.2.1.2.2.2.1 q hq).2.2 i x hx).1).1
            have e12 : Int32.ofInt 12 * nI q + nI i = nI (12 * q + i) := by rw [nI_12m, nI_add]
            -- behind the inner loop
            have j114 : ∀ a : Bool, (a = true ↔ (x.1 = 0 ∨ kRp (qSh A.2.2.1 q) (qSh A.2.2.1 q i) i = true)) → ∀ z6, kq_ex g 199 231 R 114 [.ref 72, .int (nI q), .int (nI n), .int (kp_sum (qW A.2.2.1 q (n + 1)) i), .int (nI i), .int (bI a), z6] [] H := by
              intro a ha z6
              have hFs := hF _ hs
              have j148 : ∀ t z6, t = qW A.2.2.1 q (n + 1) i → kq_ex g 199 231 R 148 [.ref 72, .int (nI q), .int (nI n), .int (kp_sum (qW A.2.2.1 q (n + 1)) i), .int (nI i), .int (bI a), z6] [.int t, .int (kp_sum (qW A.2.2.1 q (n + 1)) i)] H := by
                intro t z6 ht
                refine kq_seg (fun p => Nat.beq p 36) 10 ?_
                have := ih (i + 1) (.int (bI a)) z6 (by omega)
                rw [nI_succ, show kp_sum (qW A.2.2.1 q (n + 1)) (i + 1) = kp_sum (qW A.2.2.1 q (n + 1)) i + qW A.2.2.1 q (n + 1) i from rfl, ← ht] at this
                exact this
              refine kq_seg (fun p => Nat.beq p 148) 40 ?_
              refine kq_ci (kc_shelfAt hf0 hM0.2.2.1 w.2.2.1 hq (by omega)) hf0 ?_
              refine kq_ci (kc_mfrontOf hf0 hM0.1 hM0.2.2.1 w.2.2.1 hs) hf0 ⟨fun y => ?_, fun y => ?_⟩
              · refine j148 0 _ (if_neg (fun t => ?_)).symm
                have ya : a = true := by cases a; exact absurd rfl y; rfl
                rcases ha.mp ya with z | z
                · exact t.2 (by rw [hky]; exact z)
                · rw [t.1] at z; cases z
              · have ya : ¬ (x.1 = 0 ∨ kRp (qSh A.2.2.1 q) (qSh A.2.2.1 q i) i = true) := fun t => by rw [ha.mpr t] at y; exact absurd y (by decide)
                have h0 : (qKy A.2.2.1 (qSh A.2.2.1 q i)).1 ≠ 0 := by rw [hky]; exact fun t => ya (Or.inl t)
                have hqf : qF A.1 A.2.2.1 (qSh A.2.2.1 q i) = qFr A.2.2.1 (qSh A.2.2.1 q i) := by unfold qF; rw [if_neg h0]
                have hrp : kRp (qSh A.2.2.1 q) (qSh A.2.2.1 q i) i = false := by
                  cases hr : kRp (qSh A.2.2.1 q) (qSh A.2.2.1 q i) i with
                  | true => exact absurd (Or.inr hr) ya
                  | false => rfl
                have hwv : qW A.2.2.1 q (n + 1) i = nI (n + 1 - qFr A.2.2.1 (qSh A.2.2.1 q i)) := if_pos ⟨hrp, h0⟩
                rw [hqf] at hFs ⊢
                have hmx := qW_max (F := n + 1) (f := qFr A.2.2.1 (qSh A.2.2.1 q i)) (by omega) hFs
                rw [nI_succ] at hmx
                refine ⟨fun t => j148 0 _ ?_, fun t => j148 _ _ ?_⟩
                · rw [hwv, ← hmx]; exact (if_neg t).symm
                · rw [hwv, ← hmx]; exact (if_pos t).symm
            -- the inner loop
            have inner : ∀ m' o, o + m' = i → kq_ex g 199 231 R 72 [.ref 72, .int (nI q), .int (nI n), .int (kp_sum (qW A.2.2.1 q (n + 1)) i), .int (nI i), .int (bI (decide (x.1 = 0) || kRp (qSh A.2.2.1 q) (qSh A.2.2.1 q i) o)), .int (nI o)] [] H := by
              intro m'
              induction m' with
              | zero =>
                intro o ho
                refine kq_seg (fun p => Nat.beq p 72 || Nat.beq p 114) 40 ⟨fun _ => ?_, fun y => absurd y (nI_nlt (by omega) (by omega))⟩
                rw [show o = i by omega]
                exact j114 _ (by rw [Bool.or_eq_true, decide_eq_true_eq]) _
              | succ m' ih' =>
                intro o ho
                have nx : ∀ b : Int32, b = bI (decide (x.1 = 0) || kRp (qSh A.2.2.1 q) (qSh A.2.2.1 q i) (o + 1)) → ∀ z5, kq_ex g 199 231 R 106 [.ref 72, .int (nI q), .int (nI n), .int (kp_sum (qW A.2.2.1 q (n + 1)) i), .int (nI i), z5, .int (nI o)] [.int b] H := by
                  intro b hb z5
                  refine kq_seg (fun p => Nat.beq p 72) 10 ?_
                  have := ih' (o + 1) (by omega)
                  rw [nI_succ, ← hb] at this
                  exact this
                have hso : qSh A.2.2.1 q o < qN A.2.2.1 := by
                  obtain ⟨y, hy⟩ := kls_at (l := qNd A.2.2.1 q) (k := o) (by omega)
                  exact ((w.2.2.1.2.2.2.2 q hq).2.2 o y hy).1
                refine kq_seg (fun p => Nat.beq p 72 || Nat.beq p 106) 40 ⟨fun y => absurd (nI_lt (by omega) (by omega)) y, fun _ => ⟨fun y => ?_, fun y => ?_⟩⟩
                · refine nx 1 ?_ _
                  have ya : (decide (x.1 = 0) || kRp (qSh A.2.2.1 q) (qSh A.2.2.1 q i) o) = true := by
                    cases hr : (decide (x.1 = 0) || kRp (qSh A.2.2.1 q) (qSh A.2.2.1 q i) o) with
                    | true => rfl
                    | false => rw [hr] at y; exact absurd rfl y
                  show 1 = bI (decide (x.1 = 0) || (kRp (qSh A.2.2.1 q) (qSh A.2.2.1 q i) o || decide (qSh A.2.2.1 q o = qSh A.2.2.1 q i)))
                  rw [← Bool.or_assoc, ya]
                  rfl
                · refine kq_ci (kc_shelfAt hf0 hM0.2.2.1 w.2.2.1 hq (by omega)) hf0 ?_
                  refine kq_ci (kc_shelfAt hf0 hM0.2.2.1 w.2.2.1 hq (by omega)) hf0 ⟨fun t => nx 0 ?_ _, fun t => nx 1 ?_ _⟩
                  · have ya := bI_0.mp y
                    have : ¬ qSh A.2.2.1 q o = qSh A.2.2.1 q i := fun z => t (by rw [z])
                    show 0 = bI (decide (x.1 = 0) || (kRp (qSh A.2.2.1 q) (qSh A.2.2.1 q i) o || decide (qSh A.2.2.1 q o = qSh A.2.2.1 q i)))
                    rw [← Bool.or_assoc, ya, decide_eq_false this]
                    rfl
                  · have : qSh A.2.2.1 q o = qSh A.2.2.1 q i := (nI_eq (by omega) (by omega)).mp t
                    show 1 = bI (decide (x.1 = 0) || (kRp (qSh A.2.2.1 q) (qSh A.2.2.1 q i) o || decide (qSh A.2.2.1 q o = qSh A.2.2.1 q i)))
                    rw [decide_eq_true this, Bool.or_true, Bool.or_true]
                    rfl
            refine kq_seg (fun p => Nat.beq p 36 || Nat.beq p 72) 40 ⟨nI_in (N := 6) (by omega) (by omega), ?_⟩
            rw [nI_clamp (by omega), show ka_I H (kq_p H 72 11) q = _ from h79]
            refine ⟨fun c => absurd (nI_lt (by omega) (by omega)) c, fun _ => ⟨by rw [e12]; exact nI_in (N := 72) (by omega) (by omega), ?_⟩⟩
            rw [e12, nI_clamp (by omega), show ka_I H (kq_p H 72 12) (12 * q + i) = _ from h80]
            have i0 := inner i 0 (Nat.zero_add _)
            refine ⟨fun y => ?_, fun y => ?_⟩
            · have y' : ¬ x.1 = 0 := fun t => y (by rw [t]; rfl)
              rw [decide_eq_false y'] at i0
              exact i0
            · have y' : x.1 = 0 := (nI_eq (b := 0) (by omega) (by omega)).mp y
              rw [decide_eq_true y'] at i0
              exact i0
        exact main _ 0 _ _ (Nat.zero_add _)
      · rw [kp_bF (show ¬ (Int32.ofInt 0 ≤ u ∧ u ≤ nI (lC A.1) - Int32.ofInt 1) from fun y => z (hiff.mp y))]
        exact ⟨fun y => absurd rfl y, fun _ => ⟨trivial, e0' z⟩⟩
    by_cases z : kIsN (lC A.1) u
    · obtain ⟨n, eu, hn⟩ := z
      have same : ∀ n', u = nI n' → n' < lC A.1 → n' = n := fun n' y1 y2 => ((nI_eq (by omega) (by omega)).mp (eu.symm.trans y1)).symm
      refine ⟨A, 0, 0, kp_sum (qW A.2.2.1 q (n + 1)) (qNd A.2.2.1 q).length, w, fun z => absurd rfl z, fun g h R hf hb hC e0 e1 => ?_, fun g h R hf hM e3 => ?_⟩
      · exact cx g h R hf hb hC (fun y => absurd ⟨n, eu, hn⟩ y) (fun n' y1 y2 => by rw [same n' y1 y2]; exact e1 rfl h hf hC kFc.rfl')
      · exact cm g h R hf hM (fun y => absurd ⟨n, eu, hn⟩ y) (fun n' y1 y2 => by rw [same n' y1 y2]; exact e3 _ _ (kf_m hf) hM.m0 kFm.m0 rfl (fun _ => rfl))
    · refine ⟨A, 0, 0, -1, w, fun z => absurd rfl z, fun g h R hf hb hC e0 e1 => ?_, fun g h R hf hM e3 => ?_⟩
      · exact cx g h R hf hb hC (fun _ => e1 rfl h hf hC kFc.rfl') (fun n' y1 y2 => absurd ⟨n', y1, y2⟩ z)
      · exact cm g h R hf hM (fun _ => e3 _ _ (kf_m hf) hM.m0 kFm.m0 rfl (fun _ => rfl)) (fun n' y1 y2 => absurd ⟨n', y1, y2⟩ z)
end LK2
