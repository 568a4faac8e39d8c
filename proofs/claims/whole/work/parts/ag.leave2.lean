/-! ===== leave: the reference ===== -/
def kmX (Q : kAq) (lv : Nat → Bool) (h : ka_H) : Prop := ka_I h 72 9 = nI (qQ Q) ∧ ka_I h 72 34 = nI (qN Q) ∧ ka_I h 72 35 = nI (qFo Q) ∧ (∀ q, q < qQ Q → ka_I h 78 q = bI (qLf Q q) ∧ ka_I h 79 q = nI (qNd Q q).length ∧ ∀ k x, (qNd Q q)[k]? = some x → kMn (ka_I h) (12 * q + k) x ∧ ka_I h 84 (12 * q + k) = nI (qSh Q q k)) ∧
  ∀ s, s < qN Q → ((qKy Q s).1 ≠ 0 → ka_I h 93 s = nI (qFr Q s)) ∧ ka_I h 94 s = bI (lv s) ∧ ∃ q k x, q < qQ Q ∧ (qNd Q q)[k]? = some x ∧ qSh Q q k = s ∧ ka_I h 92 s = nI (12 * q + k)
section LM
variable {g : Nat × (Nat → Int32)} {d : Nat} {h H : ka_H} {R : ka_R → ka_H → Prop} {Q : kAq} {lv lv' : Nat → Bool} {c s : Nat}
theorem kmX.st (m : kmX Q lv h) (e72 : ka_I H 72 = ka_I h 72) (e : ∀ a, 78 ≤ a → a ≤ 93 → a ≠ 92 → ka_I H a = ka_I h a) (h94 : ∀ s, s < qN Q → ka_I H 94 s = bI (lv' s)) (h92 : ∀ s, s < qN Q → ∃ q k x, q < qQ Q ∧ (qNd Q q)[k]? = some x ∧ qSh Q q k = s ∧ ka_I H 92 s = nI (12 * q + k)) : kmX Q lv' H := by
  obtain ⟨m1, m2, m3, m4, m5⟩ := m
  unfold kmX
  rw [e72, e 78 (by omega) (by omega) (by omega), e 79 (by omega) (by omega) (by omega), e 84 (by omega) (by omega) (by omega), e 93 (by omega) (by omega) (by omega)]
  exact ⟨m1, m2, m3, fun q hq => ⟨(m4 q hq).1, (m4 q hq).2.1, fun k x hx => ⟨kMn_eq ((m4 q hq).2.2 k x hx).1 (fun a a1 a2 a3 => e a (by omega) (by omega) (by omega)), ((m4 q hq).2.2 k x hx).2⟩⟩, fun s hs => ⟨(m5 s hs).1, h94 s hs, h92 s hs⟩⟩
theorem kc_userOf (hf : kf g h) (m : kmX Q lv h) (wq : kWq c Q) (hs : s < 2 ^ 31) (e0 : (∀ q, q < qQ Q → qU Q s q = false) → R (kp_ri (-1)) h) (e1 : ∀ q k, q < qQ Q → k < (qNd Q q).length → qLf Q q = false → qSh Q q k = s → R (kp_ri (nI (12 * q + k))) h) : kp_T (d + 2) 192 [.ref 72, .int (nI s)] h R := by
  obtain ⟨m1, -, -, m4, -⟩ := m
  have w6 := wq.1
  have hN := wq.2.1
  have outer : ∀ m' q z, q + m' = qQ Q → (∀ q', q' < q → qU Q s q' = false) → kq_ex g (d + 1) 192 R 2 [.ref 72, .int (nI s), .int (nI q), z] [] h := by
    intro m'
    induction m' with
    | zero =>
      intro q z hq hno
      refine kq_seg (fun p => Nat.beq p 2 || Nat.beq p 12) 40 ⟨fun _ => ⟨trivial, e0 (fun q' h' => hno q' (by omega))⟩, fun y => ?_⟩
      have y' : nI q < ka_I h 72 9 := y
      rw [m1] at y'
      exact absurd y' (nI_nlt (by omega) (by omega))
    | succ m' ih =>
      intro q z hq hno
      have hqQ : q < qQ Q := by omega
      obtain ⟨y78, y79, ynd⟩ := m4 q hqQ
      obtain ⟨h1, h12⟩ := (wq.2.2.2.2 q hqQ).1
      have j54 : qU Q s q = false → ∀ z, kq_ex g (d + 1) 192 R 54 [.ref 72, .int (nI s), .int (nI q), z] [] h := fun hu z => by
        refine kq_seg (fun p => Nat.beq p 2) 10 ?_
        have := ih (q + 1) z (by omega) (fun q' h' => by
          rcases Nat.lt_or_ge q' q with y | y
          · exact hno q' y
          · rw [show q' = q by omega]; exact hu)
        rw [nI_succ] at this
        exact this
      have inner : ∀ m'' k, k + m'' = (qNd Q q).length → (∀ k', k' < k → qSh Q q k' ≠ s) → kq_ex g (d + 1) 192 R 12 [.ref 72, .int (nI s), .int (nI q), .int (nI k)] [] h := by
        intro m''
        induction m'' with
        | zero =>
          intro k hk hno'
          refine kq_seg (fun p => Nat.beq p 12 || Nat.beq p 54) 40 ⟨nI_in (N := 6) (by omega) (by omega), ?_⟩
          rw [nI_clamp (by omega), show ka_I h (kq_p h 72 11) q = _ from y79]
          refine ⟨fun _ => j54 ?_ _, fun y => absurd y (nI_nlt (by omega) (by omega))⟩
          unfold qU
          cases hr : kRp (qSh Q q) s (qNd Q q).length with
          | false => rw [Bool.and_false]
          | true =>
            obtain ⟨j, hj, e⟩ := (kRp_iff (qNd Q q).length).mp hr
            exact absurd e (hno' j (by omega))
        | succ m'' ih' =>
          intro k hk hno'
          obtain ⟨x, hx⟩ := kls_at (l := qNd Q q) (k := k) (by omega)
          have hso := ((wq.2.2.2.2 q hqQ).2.2 k x hx).1
          have e12 : Int32.ofInt 12 * nI q + nI k = nI (12 * q + k) := by rw [nI_12m, nI_add]
          have sA : kp_T (d + 1) 190 [.ref 72, .int (nI q), .int (nI k)] h (kp_is (.int (nI (qSh Q q k))) h) := by
            refine kq_in hf rfl rfl rfl (kq_seg kp_no 20 ⟨by rw [e12]; exact nI_in (N := 72) (by omega) (by omega), ?_⟩)
            rw [e12, nI_clamp (by omega), show ka_I h (kq_p h 72 16) (12 * q + k) = _ from (ynd k x hx).2]
            exact ⟨trivial, rfl, rfl⟩
          refine kq_seg (fun p => Nat.beq p 12 || Nat.beq p 54) 40 ⟨nI_in (N := 6) (by omega) (by omega), ?_⟩
          rw [nI_clamp (by omega), show ka_I h (kq_p h 72 11) q = _ from y79]
          refine ⟨fun y => absurd (nI_lt (by omega) (by omega)) y, fun _ => ⟨nI_in (N := 6) (by omega) (by omega), ?_⟩⟩
          rw [nI_clamp (by omega), show ka_I h (kq_p h 72 10) q = _ from y78]
          refine ⟨fun y => j54 ?_ _, fun y => ?_⟩
          · unfold qU
            have : qLf Q q = true := by
              cases hl : qLf Q q with
              | true => rfl
              | false => rw [hl] at y; exact absurd rfl y
            rw [this]
            rfl
          · refine kq_ci sA hf ⟨fun t => ?_, fun t => ?_⟩
            · have hne : qSh Q q k ≠ s := fun z => t (by rw [z])
              have := ih' (k + 1) (by omega) (fun k' h' => by
                rcases Nat.lt_or_ge k' k with u | u
                · exact hno' k' u
                · rw [show k' = k by omega]; exact hne)
              rw [nI_succ] at this
              exact this
            · have hes : qSh Q q k = s := (nI_eq (by omega) hs).mp t
              have := e1 q k hqQ (by omega) (bI_0.mp y) hes
              rw [← e12] at this
              exact ⟨trivial, this⟩
      refine kq_seg (fun p => Nat.beq p 2 || Nat.beq p 12) 40 ⟨fun y => absurd (show nI q < ka_I h 72 9 by rw [m1]; exact nI_lt (by omega) (by omega)) y, fun _ => ?_⟩
      exact inner _ 0 (Nat.zero_add _) (fun k' h' => absurd h' (Nat.not_lt_zero _))
  refine kq_in hf rfl rfl rfl (kq_seg (fun p => Nat.beq p 2) 10 ?_)
  exact outer _ 0 _ (Nat.zero_add _) (fun k' h' => absurd h' (Nat.not_lt_zero _))
end LM
theorem kp_sum_num (p : Nat → Bool) : ∀ n, kp_sum (fun k => if p k = true then 1 else 0) n = nI (kNum p n)
  | 0 => rfl
  | n + 1 => by
    show kp_sum _ n + (if p n = true then 1 else 0) = nI (kNum p n + (if p n = true then 1 else 0))
    rw [kp_sum_num p n, ← nI_add]
    cases hp : p n
    · rfl
    · rfl
section LE
variable {A : kA} {v : Int32}
/-- a shelf that goes with a question -/
def qGs (Q : kAq) (q s : Nat) : Bool := qLv Q s && !qLv (qLe Q q) s
theorem qGs_eq {Q : kAq} {q c : Nat} (w : kWq c Q) (hq : q < qQ Q) (hl : qLf Q q = false) : kp_sum (qGo Q q) (qNd Q q).length = nI (kNum (qGs Q q) (qN Q)) := by
  have h1 : kNum (qGs Q q) (qN Q) = kNum (fun s => kRp (qSh Q q) s (qNd Q q).length && decide (qC Q s = 1)) (qN Q) := kNum_cg _ (fun s hs => by
    have hC := qLe_C (s := s) hq hl
    show (decide (0 < qC Q s) && !decide (0 < qC (qLe Q q) s)) = _
    cases hr : kRp (qSh Q q) s (qNd Q q).length with
    | false =>
      rw [hr, if_neg (by decide)] at hC
      rw [Bool.false_and, show qC (qLe Q q) s = qC Q s by omega]
      cases decide (0 < qC Q s) <;> rfl
    | true =>
      rw [hr, if_pos rfl] at hC
      rw [Bool.true_and]
      by_cases z : qC Q s = 1
      · rw [decide_eq_true z, decide_eq_true (show 0 < qC Q s by omega), decide_eq_false (show ¬ 0 < qC (qLe Q q) s by omega)]; rfl
      · rw [decide_eq_false z, decide_eq_true (show 0 < qC (qLe Q q) s by omega), Bool.not_true, Bool.and_false])
  rw [h1, kNum_rp (sp := qSh Q q) (p := fun s => decide (qC Q s = 1)) (qNd Q q).length (fun k hk => by
    obtain ⟨x, hx⟩ := kls_at hk
    exact ((w.2.2.2.2 q hq).2.2 k x hx).1), ← kp_sum_num]
  refine kp_sum_cg _ (fun k hk => ?_)
  unfold qGo
  by_cases z : kRp (qSh Q q) (qSh Q q k) k = false ∧ qC Q (qSh Q q k) = 1
  · rw [if_pos z, z.1, decide_eq_true z.2]; rfl
  · rw [if_neg z]
    cases hr : kRp (qSh Q q) (qSh Q q k) k with
    | true => rfl
    | false => rw [decide_eq_false (fun y => z ⟨hr, y⟩)]; rfl
theorem ko_leave (w : kWA A) (v : Int32) : kOx (kmp1 2) 200 91 191 [.int v] A := by
  have w6 := w.2.2.1.1
  have hN := w.2.2.1.2.1
  refine ko_ques (v := v) w (fun c g h R hf hb hC b => ?_) (fun c g h R hf hM b => ?_) (fun q ev hq hlf => ?_)
  · refine kd_in (d := 199) hf rfl rfl rfl (kd_seg (fun p => Nat.beq p 16) 20 ⟨kK hf rfl rfl, ?_⟩)
    exact kx_q hf hb hC w (fun _ => ⟨kf_new hf (by omega), b⟩) (fun sb qb st q' q4 e' hq' hl' => absurd ⟨q', e', hq', hl'⟩ c)
  · have hf0 : kf g (km_0 h) := kf_m hf
    refine kq_in (d := 199) hf rfl rfl rfl (kq_seg (fun p => Nat.beq p 26) 20 ?_)
    exact kc_isQuestion hf0 rfl hM.m0.2.2.1 w6 (fun q' e' hq' hl' => absurd ⟨q', e', hq', hl'⟩ c) (fun z => ⟨kf_m hf0, ⟨fun y => absurd rfl y, fun _ => ⟨trivial, b⟩⟩⟩)
  · refine ⟨(A.1, A.2.1, qLe A.2.2.1 q, A.2.2.2), 0, 0, kp_sum (qGo A.2.2.1 q) (qNd A.2.2.1 q).length, ⟨w.1, w.2.1, w.2.2.1.le', w.2.2.2⟩, fun z => absurd rfl z, fun g h R hf hb hC e0 e1 => ?_, fun g h R hf hM e3 => ?_⟩
    · refine kd_in (d := 199) hf rfl rfl rfl (kd_seg (fun p => Nat.beq p 16) 20 ⟨kK hf rfl rfl, ?_⟩)
      refine kx_q hf hb hC w (fun z => absurd ⟨q, ev, hq, hlf⟩ z) (fun sb qb st q' q4 ev' hq' hlf' => ⟨hf, ?_⟩)
      rw [kIsQ_u w6 ev hq ev' hq']
      have cq := q4.2.2.2.2.2.2.1 q hq
      have hKb : (ka_K h (qb q)).1 = 4 := by rw [cq.1.2.2.1]
      have hqb := cq.1.1
      refine ⟨hKb, ⟨Or.inr rfl, ?_⟩⟩
      refine kx_leave (H := ka_sI h (qb q) 4 1) hf q4 w.2.2.1 hq hlf ⟨rfl, rfl, fun _ => rfl, fun _ => rfl, fun a _ a2 => kI_o _ _ _ a2, fun s k hs hk => ?_, fun k hk => ka_IJ _ _ _ _ hk, ka_IS _ _ _ _, fun s hs => ?_⟩ (kf_sI hf (by rw [hKb]; decide)) (fun H' fH' f => ?_)
      · have := cq.2.2.1 s hs
        rw [kI_o _ _ _ (by omega)]
      · have := cq.2.2.1 s hs
        rw [kI_o _ _ _ (by omega)]
        exact (q4.2.2.2.2.1 s hs).2.2.1
      · have hsb := fun s hs => (q4.2.2.1.1 s hs).1
        have oth : ∀ a, a < 103 → ka_I H' a = ka_I h a := fun a ha => f.2.2.2.2.1 a (fun s hs => by have := hsb s hs; omega) (by omega)
        exact e1 rfl H' fH' ⟨hC.1.st (fun a a1 a2 => oth a (by omega)), hC.2.1.st (fun a a1 a2 => oth a (by omega)), hC.2.2.1.st (by rw [oth 1 (by omega)]) (oth 70 (by omega)), sb, qb, st, q4.lv hq f (fun _ _ => rfl)⟩ ⟨by rw [f.1]; omega, by rw [f.2.1]; omega, fun a a1 a2 => oth a (by omega)⟩
    · have hf0 : kf g (km_0 h) := kf_m hf
      have hM0 : kmA A (km_0 h) := hM.m0
      subst ev
      refine kq_in (d := 199) hf rfl rfl rfl (kq_seg (fun p => Nat.beq p 5) 10 ?_)
      have t0 : ka_I (km_0 h) 72 0 = 0 := rfl
      have g0 : kFm h (km_0 h) := kFm.m0
      refine (?_ : kq_ex g 199 191 R 5 [.ref 72, .int (nI q), .retAddr 0, .retAddr 0, .retAddr 0] [] (km_0 h))
      generalize km_0 h = H0 at hf0 hM0 t0 g0
      rw [qGs_eq w.2.2.1 hq hlf] at e3
      have main : ∀ m s H z, s + m = qN A.2.2.1 → kf g H → kFm h H → ka_I H 72 0 = 0 → kml A.1 H → kmt A.2.1 H → kmr A.2.2.2 H → kmX (qLe A.2.2.1 q) (fun s' => if s' < s then qLv (qLe A.2.2.1 q) s' else qLv A.2.2.1 s') H → kq_ex g 199 191 R 26 [.ref 72, .int (nI q), .int (nI (kNum (qGs A.2.2.1 q) s)), .int (nI s), z] [] H := by
        intro m
        induction m with
        | zero =>
          intro s H z hs f1 f2 f3 f4 f5 f6 f7
          refine kq_seg (fun p => Nat.beq p 26) 60 ⟨fun _ => ⟨trivial, ?_⟩, fun y => ?_⟩
          · rw [show s = qN A.2.2.1 by omega] at f7 ⊢
            refine e3 H _ f1 ⟨f4, f5, ?_, f6⟩ f2 f3 (fun _ => rfl)
            exact kmX.st f7 rfl (fun _ _ _ _ => rfl) (fun s' hs' => by have hs2 : s' < qN A.2.2.1 := hs'; rw [(f7.2.2.2.2 s' hs').2.1]; exact congrArg bI (if_pos hs2)) (fun s' hs' => (f7.2.2.2.2 s' hs').2.2)
          · have y' : nI s < ka_I H 72 34 := y
            rw [f7.2.1] at y'
            exact absurd y' (nI_nlt (show qN A.2.2.1 ≤ s by omega) (by omega))
        | succ m ih =>
          intro s H z hs f1 f2 f3 f4 f5 f6 f7
          have hsN : s < qN A.2.2.1 := by omega
          have h94 : ka_I H 94 s = bI (qLv A.2.2.1 s) := by
            rw [(f7.2.2.2.2 s hsN).2.1]
            exact congrArg bI (if_neg (Nat.lt_irrefl s))
          have hC := qLe_C (s := s) hq hlf
          -- on to the next shelf
          have nx : ∀ (H' : ka_H) z b, (∀ a, a ≠ 92 → a ≠ 94 → ka_I H' a = ka_I H a) → kf g H' → kFm h H' → (∀ s', s' ≠ s → ka_I H' 94 s' = ka_I H 94 s' ∧ ka_I H' 92 s' = ka_I H 92 s') → ka_I H' 94 s = bI (qLv (qLe A.2.2.1 q) s) → (∃ q' k x, q' < qQ A.2.2.1 ∧ (qNd A.2.2.1 q')[k]? = some x ∧ qSh A.2.2.1 q' k = s ∧ ka_I H' 92 s = nI (12 * q' + k)) → b = nI (kNum (qGs A.2.2.1 q) (s + 1)) → kq_ex g 199 191 R 80 [.ref 72, .int (nI q), .int b, .int (nI s), z] [] H' := by
            intro H' z b o1 o2 o3 o4 o5 o6 o7
            refine kq_seg (fun p => Nat.beq p 26) 10 ?_
            have := ih (s + 1) H' z (by omega) o2 o3 (by rw [o1 72 (by decide) (by decide)]; exact f3) (f4.st (fun k _ => by rw [o1 72 (by decide) (by decide)]) (fun a a1 a2 => o1 a (by omega) (by omega))) (f5.st (fun k _ => by rw [o1 72 (by decide) (by decide)]) (o1 89 (by decide) (by decide))) (f6.st (by rw [o1 72 (by decide) (by decide)]) (fun a a1 a2 => o1 a (by omega) (by omega))) (f7.st (o1 72 (by decide) (by decide)) (fun a a1 a2 a3 => o1 a a3 (by omega)) (fun s' hs' => ?_) (fun s' hs' => ?_))
            · rw [nI_succ, ← o7] at this
              exact this
            · show ka_I H' 94 s' = bI (if s' < s + 1 then _ else _)
              by_cases y : s' = s
              · rw [y, if_pos (by omega)]; exact o5
              · rw [(o4 s' y).1, (f7.2.2.2.2 s' hs').2.1]
                show bI (if s' < s then qLv (qLe A.2.2.1 q) s' else qLv A.2.2.1 s') = _
                by_cases y2 : s' < s
                · rw [if_pos y2, if_pos (by omega)]
                · rw [if_neg y2, if_neg (by omega)]
            · by_cases y : s' = s
              · rw [y]; exact o6
              · rw [(o4 s' y).2]; exact (f7.2.2.2.2 s' hs').2.2
          refine kq_seg (fun p => Nat.beq p 26 || Nat.beq p 80) 60 ⟨fun y => absurd (show nI s < ka_I H 72 34 by rw [f7.2.1]; exact nI_lt (show s < qN A.2.2.1 by omega) (show qN A.2.2.1 < 2 ^ 31 by omega)) y, fun _ => ⟨nI_in (N := 72) (by omega) (by omega), ?_⟩⟩
          rw [nI_clamp (by omega), show ka_I H (kq_p H 72 38) s = _ from h94]
          refine ⟨fun y => ?_, fun y => ?_⟩
          · have hlv : qLv A.2.2.1 s = true := by
              cases hr : qLv A.2.2.1 s with
              | true => rfl
              | false => rw [hr] at y; exact absurd rfl y
            refine kc_userOf f1 f7 (Q := qLe A.2.2.1 q) w.2.2.1.le' (by omega) (fun u => ⟨f1, ⟨fun t => absurd rfl t, fun _ => ⟨⟨nI_in (N := 72) (by omega) (by omega), Or.inl rfl⟩, ?_⟩⟩⟩) (fun q' k' u1 u2 u3 u4 => ⟨f1, ⟨fun _ => ⟨nI_in (N := 72) (by omega) (by omega), ?_⟩, fun t => ?_⟩⟩)
            · rw [nI_clamp (by omega)]
              have hg : qLv (qLe A.2.2.1 q) s = false := decide_eq_false (by
                have := (kNum_0 (p := qU (qLe A.2.2.1 q) s) (qQ A.2.2.1)).mpr u
                show ¬ 0 < kNum (qU (qLe A.2.2.1 q) s) (qQ A.2.2.1)
                omega)
              refine nx (ka_sI H 94 s 0) _ _ (fun a _ a2 => kI_o _ _ _ a2) (kf_w f1 94 rfl rfl) (f2.sI (by omega)) (fun s' y2 => ⟨ka_IJ _ _ _ _ y2, by rw [kI_o _ _ _ (by decide)]⟩) ?_ ?_ ?_
              · rw [ka_IS, hg]; rfl
              · rw [kI_o _ _ _ (by decide)]; exact (f7.2.2.2.2 s hsN).2.2
              · show nI (kNum (qGs A.2.2.1 q) s) + 1 = nI (kNum (qGs A.2.2.1 q) s + (if qGs A.2.2.1 q s = true then 1 else 0))
                rw [show qGs A.2.2.1 q s = true by unfold qGs; rw [hlv, hg]; rfl, if_pos rfl, nI_succ]
            · rw [nI_clamp (by omega)]
              have h12' := (w.2.2.1.2.2.2.2 q' u1).1.2
              have u2' : k' < (qNd A.2.2.1 q').length := u2
              have hg : qLv (qLe A.2.2.1 q) s = true := decide_eq_true (by
                rcases Nat.eq_zero_or_pos (qC (qLe A.2.2.1 q) s) with z | z
                · have := (kNum_0 (p := qU (qLe A.2.2.1 q) s) (qQ A.2.2.1)).mp z q' u1
                  unfold qU at this
                  rw [u3, (kRp_iff (qNd (qLe A.2.2.1 q) q').length).mpr ⟨k', u2, u4⟩] at this
                  cases this
                · exact z)
              obtain ⟨x, hx⟩ := kls_at u2'
              refine nx (ka_sI H 92 s (nI (12 * q' + k'))) _ _ (fun a a1 _ => kI_o _ _ _ a1) (kf_w f1 92 rfl rfl) (f2.sI (by omega)) (fun s' y2 => ⟨by rw [kI_o _ _ _ (by decide)], ka_IJ _ _ _ _ y2⟩) ?_ ⟨q', k', x, u1, hx, u4, ka_IS _ _ _ _⟩ ?_
              · rw [kI_o _ _ _ (by decide), h94, hlv, hg]
              · show nI (kNum (qGs A.2.2.1 q) s) = nI (kNum (qGs A.2.2.1 q) s + (if qGs A.2.2.1 q s = true then 1 else 0))
                rw [show qGs A.2.2.1 q s = false by unfold qGs; rw [hg, Bool.not_true, Bool.and_false], if_neg (by decide), Nat.add_zero]
            · have h12' := (w.2.2.1.2.2.2.2 q' u1).1.2
              have u1' : q' < qQ A.2.2.1 := u1
              have u2' : k' < (qNd A.2.2.1 q').length := u2
              exact absurd t (nI_ne_m1 (by omega))
          · have hlv : qLv A.2.2.1 s = false := bI_0.mp y
            have h0 : ¬ 0 < qC A.2.2.1 s := of_decide_eq_false hlv
            have hg : qLv (qLe A.2.2.1 q) s = false := decide_eq_false (by omega)
            refine nx H _ _ (fun _ _ _ => rfl) f1 f2 (fun _ _ => ⟨rfl, rfl⟩) ?_ (f7.2.2.2.2 s hsN).2.2 ?_
            · rw [h94, hlv, hg]
            · show nI (kNum (qGs A.2.2.1 q) s) = nI (kNum (qGs A.2.2.1 q) s + (if qGs A.2.2.1 q s = true then 1 else 0))
              rw [show qGs A.2.2.1 q s = false by unfold qGs; rw [hlv]; rfl, if_neg (by decide), Nat.add_zero]
      refine kq_seg (fun p => Nat.beq p 26) 30 ?_
      refine kc_isQuestion hf0 t0 hM0.2.2.1 w6 (fun q' e' hq' hl' => ⟨hf0, ⟨fun _ => ⟨⟨nI_in (N := 6) (by omega) (by omega), Or.inr rfl⟩, ?_⟩, fun z => absurd z (by decide)⟩⟩) (fun z => absurd ⟨q, rfl, hq, hlf⟩ z)
      rw [nI_clamp (by omega)]
      have o1 : ∀ a, a ≠ 78 → ka_I (ka_sI H0 78 q 1) a = ka_I H0 a := fun a ha => kI_o _ _ _ ha
      have hmX : kmX (qLe A.2.2.1 q) (fun s' => if s' < 0 then qLv (qLe A.2.2.1 q) s' else qLv A.2.2.1 s') (ka_sI H0 78 q 1) := by
        obtain ⟨m1, m2, m3, m4, m5⟩ := hM0.2.2.1
        unfold kmX
        rw [o1 72 (by decide), o1 79 (by decide), o1 84 (by decide), o1 92 (by decide), o1 93 (by decide), o1 94 (by decide)]
        refine ⟨m1, m2, m3, fun q2 hq2 => ⟨?_, (m4 q2 hq2).2.1, fun k x hx => ⟨kMn_eq ((m4 q2 hq2).2.2 k x hx).1 (fun a a1 a2 a3 => o1 a (by omega)), ((m4 q2 hq2).2.2 k x hx).2⟩⟩, fun s hs => ⟨(m5 s hs).1, (m5 s hs).2.1, (m5 s hs).2.2⟩⟩
        show ka_I (ka_sI H0 78 q 1) 78 q2 = bI (if q2 = q then true else qLf A.2.2.1 q2)
        by_cases y : q2 = q
        · rw [y, if_pos rfl]; exact ka_IS _ _ _ _
        · rw [if_neg y, ka_IJ _ _ _ _ y]; exact (m4 q2 hq2).1
      exact main _ 0 (ka_sI H0 78 q 1) _ (Nat.zero_add _) (kf_w hf0 78 rfl rfl) (g0.sI (by omega)) ((congrFun (o1 72 (by decide)) 0).trans t0) (hM0.1.st (fun k _ => by rw [o1 72 (by decide)]) (fun a a1 a2 => o1 a (by omega))) (hM0.2.1.st (fun k _ => by rw [o1 72 (by decide)]) (o1 89 (by decide))) (hM0.2.2.2.st (by rw [o1 72 (by decide)]) (fun a a1 a2 => o1 a (by omega))) hmX
end LE
