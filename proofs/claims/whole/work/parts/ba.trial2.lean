/-! ===== the class: a trial's count is set, what hangs on it follows ===== -/
section T3
variable {g : Nat × (Nat → Int32)} {d : Nat} {h : ka_H} {R : ka_R → ka_H → Prop} {L : kAl} {Q : kAq} {sb qb st : Nat → Nat} {s q t c : Nat} {v : Int32} {T : Nat → Nat → Int32}
theorem kNx_ky {c0 : Nat} (wq : kWq c0 Q) (hq : q < qQ Q) {j : Nat} (hj : j < (qNd Q q).length) : (qKy Q (qSh Q q j)).1 = (kNx Q q j).1 ∧ ((kNx Q q j).1 = 0 → (qKy Q (qSh Q q j)).2.1 = (kNx Q q j).2.1) ∧ ((kNx Q q j).1 ≠ 0 → (qKy Q (qSh Q q j)).2.2.1 = qSh Q q (kNx Q q j).2.2.1 + 1 ∧ (kNx Q q j).2.2.1 < j) ∧ (9 ≤ (kNx Q q j).1 ∧ (kNx Q q j).1 ≤ 12 → (qKy Q (qSh Q q j)).2.2.2.1 = qSh Q q (kNx Q q j).2.2.2.1 + 1 ∧ (kNx Q q j).2.2.2.1 < j) ∧ (¬ (9 ≤ (kNx Q q j).1 ∧ (kNx Q q j).1 ≤ 12) → (qKy Q (qSh Q q j)).2.2.2.1 = 0) ∧ (kNx Q q j).1 ≤ 13 := by
  obtain ⟨x, hx⟩ := kls_at hj
  rw [kNx_some hx]
  have hky := ((wq.2.2.2.2 q hq).2.2 j x hx).2
  obtain ⟨⟨n1, n2, n3, n4, -⟩, -⟩ := (wq.2.2.2.2 q hq).2.1 j x hx
  rw [Nat.zero_add] at n3 n4
  rw [hky]
  exact ⟨rfl, fun z => if_pos z, fun z => ⟨if_neg z, n3 (by omega)⟩, fun z => ⟨if_pos z, n4 z.1 z.2⟩, fun z => if_neg z, n1⟩
theorem kc_setTried (hf : kf g h) (w : kcq L Q sb qb st h) (hs : s < qN Q) (hc : c < 256) (e : R (kp_ri (if ka_I h (sb s + 3) c = v then 0 else (1 : Int32) <<< (nI (c / 16) &&& 31))) (ka_sI h (sb s + 3) c v)) : kp_T (d + 1) 142 [.ref (sb s), .int (nI c), .int v] h R := by
  have cs := w.2.2.2.2.1 s hs
  have p9 : kq_p h (sb s) 9 = sb s + 3 := (kq_p_s hf _ _).trans cs.1.2.2.1.2.2.2.2.2.2
  have q4 := cs.1.2.1.2.2.2.1
  have k3 : kr h (sb s + 3) 256 := ⟨by rw [q4], by rw [q4]⟩
  refine kd_in hf rfl rfl rfl (kd_seg kp_no 30 ⟨cs.K, ?_⟩)
  rw [p9]
  refine ⟨kr_in k3 hc (by omega), ⟨cs.K, ?_⟩⟩
  rw [p9, nI_clamp (by omega)]
  refine ⟨k3.1, ⟨kr_st k3 hc (by omega), ?_⟩⟩
  rw [nI_clamp (by omega)]
  refine ⟨fun y => ⟨by decide, ⟨trivial, ?_⟩⟩, fun y => ⟨trivial, ?_⟩⟩
  · rw [if_neg y] at e
    rw [show nI c / Int32.ofInt 16 = nI (c / 16) from nI_div (b := 16) (by omega) (by omega)]
    exact e
  · rw [if_pos y] at e
    exact e
theorem kc_tryCount {c0 : Nat} (hf : kf g h) (w : kcq L Q sb qb st h) (wq : kWq c0 Q) (hq : q < qQ Q) (ht : t < 4) (hc : c < 256) (hT : kTI Q sb q T h) (e : ∀ h', kf g h' → kTf Q sb qb h h' → kTI Q sb q (tU T t c v) h' → R (.inl none) h') : kp_T (d + 5) 141 [.ref 1, .ref (qb q), .int (nI t), .int (nI c), .int v] h R := by
  have wk := fun s hs => (wq.2.2.2.1 s hs).1
  have h12 := (wq.2.2.2.2 q hq).1.2
  have main : ∀ p i, i + p = (qNd Q q).length → ∀ h' z, kf g h' → kTf Q sb qb h h' → (∀ j, j < (qNd Q q).length → (kRp (qSh Q q) (qSh Q q j) i = true → (∀ r, r < 256 → ka_I h' (sb (qSh Q q j) + 3) r = kSV (qKy Q) (tU T t c v) (qSh Q q j) r) ∧ ∀ a, a < 16 → bt (ka_I h' (sb (qSh Q q j)) 13) a = false → ∀ b, b < 16 → kSV (qKy Q) T (qSh Q q j) (16 * a + b) = kSV (qKy Q) (tU T t c v) (qSh Q q j) (16 * a + b)) ∧ (kRp (qSh Q q) (qSh Q q j) i = false → ∀ r, r < 256 → ka_I h' (sb (qSh Q q j) + 3) r = kSV (qKy Q) T (qSh Q q j) r)) → kd_ex g (d + 4) 141 R 3 [.ref 1, .ref (qb q), .int (nI t), .int (nI c), .int v, .int (nI i), z] [] h' := by
    intro p
    induction p with
    | zero =>
      intro i hi h' z f1 f2 f3
      have w' := f2.cq w
      have hQ := (w'.2.2.2.2.2.2.1 q hq).1
      have hKb : (ka_K h' (qb q)).1 = 4 := by rw [hQ.2.2.1]
      refine kd_seg (fun p => Nat.beq p 3) 20 ⟨hKb, ?_⟩
      rw [hQ.2.2.2.2.2.2.2.2.2.1]
      refine ⟨fun _ => e h' f1 f2 (fun j hj => ((f3 j hj).1 ((kRp_iff i).mpr ⟨j, by omega, rfl⟩)).1), fun y => absurd y (nI_nlt (by omega) (by omega))⟩
    | succ p ih =>
      intro i hi h' z f1 f2 f3
      have w' := f2.cq w
      have hQ := (w'.2.2.2.2.2.2.1 q hq).1
      have hKb : (ka_K h' (qb q)).1 = 4 := by rw [hQ.2.2.1]
      obtain ⟨y, hy⟩ := kls_at (l := qNd Q q) (k := i) (by omega)
      obtain ⟨hP, hs, cs, h13⟩ := w'.nd wq hq (k := i) (by omega)
      have hrp := ((w'.2.2.2.2.2.2.1 q hq).2.2.2 i y hy).2.2
      obtain ⟨y1, y2, y3, y4, y5, y6⟩ := kNx_ky wq hq (j := i) (by omega)
      have hb := (w'.2.2.1.1 _ hs).1
      have kS : ∀ j, kRp (qSh Q q) (qSh Q q j) (i + 1) = (kRp (qSh Q q) (qSh Q q j) i || decide (qSh Q q i = qSh Q q j)) := fun j => rfl
      -- a step at i has been done
      have step : ∀ h2 z, kRp (qSh Q q) (qSh Q q i) i = false → kf g h2 → kTs Q sb qb (qSh Q q i) h' h2 → (∀ r, r < 256 → ka_I h2 (sb (qSh Q q i) + 3) r = kSV (qKy Q) (tU T t c v) (qSh Q q i) r) → (∀ a, a < 16 → bt (ka_I h2 (sb (qSh Q q i)) 13) a = false → ∀ b, b < 16 → kSV (qKy Q) T (qSh Q q i) (16 * a + b) = kSV (qKy Q) (tU T t c v) (qSh Q q i) (16 * a + b)) → kd_ex g (d + 4) 141 R 94 [.ref 1, .ref (qb q), .int (nI t), .int (nI c), .int v, .int (nI i), z] [] h2 := by
        intro h2 z hno g1 g2 g3 g4
        have := ih (i + 1) (by omega) h2 z g1 (f2.tr g2.1) (fun j hj => by
          have hsj := (w'.nd wq hq (k := j) hj).2.1
          by_cases u : qSh Q q i = qSh Q q j
          · rw [← u]
            refine ⟨fun _ => ⟨g3, g4⟩, fun x => ?_⟩
            rw [kS i, decide_eq_true rfl, Bool.or_true] at x
            cases x
          · rw [kS j, decide_eq_false u, Bool.or_false, (g2.2 _ hsj (fun x => u x.symm)).1, (g2.2 _ hsj (fun x => u x.symm)).2]
            exact f3 j hj)
        rw [nI_succ] at this
        exact kd_seg (fun p => Nat.beq p 3) 10 this
      refine kd_seg (fun p => Nat.beq p 3 || Nat.beq p 94) 60 ⟨hKb, ?_⟩
      rw [hQ.2.2.2.2.2.2.2.2.2.1]
      refine ⟨fun y => absurd (nI_lt (by omega) (by omega)) y, fun _ => ⟨hKb, ?_⟩⟩
      refine kc_firstAt (rp := fun k => kRp (qSh Q q) (qSh Q q k) k) f1 hQ (by omega) (by rw [hP]; exact cs.ne) hrp (fun hyes => ⟨f1, ?_⟩) (fun hno => ⟨f1, ?_⟩)
      · -- seen before
        have this := ih (i + 1) (by omega) h' (.ref 0) f1 f2 (fun j hj => by
          by_cases u : qSh Q q i = qSh Q q j
          · have hj1 := f3 j hj
            rw [← u] at hj1 ⊢
            refine ⟨fun _ => hj1.1 hyes, fun x => ?_⟩
            rw [kS i, decide_eq_true rfl, Bool.or_true] at x
            cases x
          · rw [kS j, decide_eq_false u, Bool.or_false]
            exact f3 j hj)
        rw [nI_succ] at this
        refine ⟨fun _ => ⟨fun _ => kd_seg (fun p => Nat.beq p 3) 10 this, fun u => absurd rfl u⟩, fun u => absurd rfl u⟩
      · have told := (f3 i (by omega)).2 hno
        rw [hP]
        refine ⟨fun u => absurd u cs.ne, fun _ => ⟨cs.K, ?_⟩⟩
        rw [cs.p1 f1]
        refine ⟨⟨(show 1000000 + (qKy Q (qSh Q q i)).1 < 1000014 by omega), by decide⟩, fun u => ?_, fun u => ?_⟩
        · -- an operator
          have u0 : (qKy Q (qSh Q q i)).1 ≠ 0 := fun x => u (by rw [x])
          have u0' : (kNx Q q i).1 ≠ 0 := by rw [← y1]; exact u0
          have o1 := y3 u0'
          have w1 := wk _ hs
          have hs1 := (w'.nd wq hq (k := (kNx Q q i).2.2.1) (by omega)).2.1
          have c1 := w'.2.2.2.2.1 _ hs1
          have hb1 := (w'.2.2.1.1 _ hs1).1
          have d1 := (f3 (kNx Q q i).2.2.1 (by omega)).1 ((kRp_iff i).mpr ⟨_, o1.2, rfl⟩)
          have e5 : ka_P h' (sb (qSh Q q i)) 5 = sb (qSh Q q (kNx Q q i).2.2.1) := cs.1.2.2.1.2.2.2.1.trans (by unfold ks_r; rw [o1.1, if_neg (by omega), Nat.add_sub_cancel])
          have q3' := c1.1.2.1.2.2.2.1
          have er : kv_cr h' (ka_P h' (sb (qSh Q q i)) 5) 1 = sb (qSh Q q (kNx Q q i).2.2.1) + 3 := by
            unfold kv_cr
            rw [e5, if_neg c1.ne, if_neg (by decide)]
            exact c1.1.2.2.1.2.2.2.2.2.2
          have of1 : kv_of h' (ka_P h' (sb (qSh Q q i)) 5) = ka_I h' (sb (qSh Q q (kNx Q q i).2.2.1)) 13 := by
            unfold kv_of
            rw [e5, if_neg c1.ne]
          have h6 : ka_P h' (sb (qSh Q q i)) 6 = 0 ∨ (ka_K h' (ka_P h' (sb (qSh Q q i)) 6)).1 = 5 := by
            by_cases z9 : 9 ≤ (kNx Q q i).1 ∧ (kNx Q q i).1 ≤ 12
            · have o2 := y4 z9
              have hs2 := (w'.nd wq hq (k := (kNx Q q i).2.2.2.1) (by omega)).2.1
              rw [cs.1.2.2.1.2.2.2.2.1, show ks_r sb (qKy Q (qSh Q q i)).2.2.2.1 = sb (qSh Q q (kNx Q q i).2.2.2.1) by unfold ks_r; rw [o2.1, if_neg (by omega), Nat.add_sub_cancel]]
              exact Or.inr (w'.2.2.2.2.1 _ hs2).K
            · rw [cs.1.2.2.1.2.2.2.2.1, show ks_r sb (qKy Q (qSh Q q i)).2.2.2.1 = 0 by unfold ks_r; rw [y5 z9, if_pos rfl]]
              exact Or.inl rfl
          have hK1 : (ka_K h' 1).1 = 8 := kK f1 rfl rfl
          refine ⟨fun x => absurd x cs.ne, fun _ => ⟨hK1, ⟨hK1, ⟨kK f1 (a := 63) rfl rfl, ?_⟩⟩⟩⟩
          refine kp_opq (kc_linesToTry f1 cs.K cs.1.2.2.1.1 h13 (Or.inr (by rw [e5]; exact c1.K)) h6 er ⟨by rw [q3'], by rw [q3']⟩) (fun ls hls => ⟨f1, ⟨kK f1 (a := 63) rfl rfl, ?_⟩⟩)
          have q4' := cs.1.2.1.2.2.2.1
          refine kc_refreshS (j := 3) (t := 1) (Or.inr ⟨rfl, rfl⟩) f1 w' wk hs u0 (fun F K => ⟨kW_f f1 (by rw [q4']), ⟨cs.K, ?_⟩⟩)
          have hfW : kf g (kW h' (sb (qSh Q q i) + 3) F K (kh_m ls (ka_I h' (sb (qSh Q q i) + 3)) (kVo Q sb h' (qSh Q q i) 3) 16)) := kW_f f1 (by rw [q4'])
          have hV : ∀ r, r < 256 → kVo Q sb h' (qSh Q q i) 3 (r / 16) (r % 16) = kSV (qKy Q) (tU T t c v) (qSh Q q i) r := fun r hr => by
            refine kVo_V w' wk hs u0 (fun x hx => ?_) (fun z1 z2 x hx => ?_) hr
            · rw [o1.1, Nat.add_sub_cancel]; exact d1.1 x hx
            · rw [y1] at z1 z2
              have o2 := y4 ⟨z1, z2⟩
              rw [o2.1, Nat.add_sub_cancel]
              exact ((f3 (kNx Q q i).2.2.2.1 (by omega)).1 ((kRp_iff i).mpr ⟨_, o2.2, rfl⟩)).1 x hx
          have hln : ∀ r, r < 256 → bt ls (r / 16) = false → kSV (qKy Q) T (qSh Q q i) r = kSV (qKy Q) (tU T t c v) (qSh Q q i) r := fun r hr hl => by
            rw [kSV_nd wq hq (by omega) hr, kSV_nd wq hq (by omega) hr, if_neg u0', if_neg u0']
            refine kv_op_ln (by omega) y6 (f := ka_I h' (sb (qSh Q q (kNx Q q i).2.2.1)) 13) (s := kv_of h' (ka_P h' (sb (qSh Q q i)) 6)) (ls := ls) d1.2 (fun z9 => ?_) ?_ hr hl
            · have o2 := y4 z9
              have hs2 := (w'.nd wq hq (k := (kNx Q q i).2.2.2.1) (by omega)).2.1
              rw [show kv_of h' (ka_P h' (sb (qSh Q q i)) 6) = ka_I h' (sb (qSh Q q (kNx Q q i).2.2.2.1)) 13 by
                rw [cs.1.2.2.1.2.2.2.2.1, show ks_r sb (qKy Q (qSh Q q i)).2.2.2.1 = sb (qSh Q q (kNx Q q i).2.2.2.1) by unfold ks_r; rw [o2.1, if_neg (by omega), Nat.add_sub_cancel]]
                unfold kv_of
                rw [if_neg (w'.2.2.2.2.1 _ hs2).ne]]
              exact ((f3 (kNx Q q i).2.2.2.1 (by omega)).1 ((kRp_iff i).mpr ⟨_, o2.2, rfl⟩)).2
            · rw [hls, of1, y1]
              by_cases z1 : (kNx Q q i).1 = 1 ∨ (kNx Q q i).1 = 8
              · rw [if_pos z1, if_pos z1]
              · rw [if_neg z1, if_neg z1]
                by_cases z2 : (kNx Q q i).1 = 9
                · rw [if_pos z2, if_pos z2]
                  have hmc : ∀ n, n ≤ 256 → ∀ s, kv_meet (ka_I h' (sb (qSh Q q (kNx Q q i).2.2.1) + 3)) s n = kv_meet (kSV (qKy Q) (tU T t c v) (qSh Q q (kNx Q q i).2.2.1)) s n := by
                    intro n
                    induction n with
                    | zero => intro _ s; rfl
                    | succ n ihn =>
                      intro hn s
                      show kv_meet _ s n ||| _ = kv_meet _ s n ||| _
                      rw [ihn (by omega) s, d1.1 n (by omega)]
                  rw [hmc 256 (Nat.le_refl _) _]
                · rw [if_neg z2, if_neg z2]
          have oI : ∀ am a, a ≠ 65 → a ≠ 66 → a ≠ sb (qSh Q q i) → a ≠ sb (qSh Q q i) + 3 → ka_I (ka_sI (kW h' (sb (qSh Q q i) + 3) F K (kh_m ls (ka_I h' (sb (qSh Q q i) + 3)) (kVo Q sb h' (qSh Q q i) 3) 16)) (sb (qSh Q q i)) 13 am) a = ka_I h' a := fun am a a1 a2 a3 a4 => by rw [kI_o _ _ _ a3, kW_In a1 a2 a4]
          have nw : ∀ r, r < 256 → kh_m ls (ka_I h' (sb (qSh Q q i) + 3)) (kVo Q sb h' (qSh Q q i) 3) 16 r = kSV (qKy Q) (tU T t c v) (qSh Q q i) r := fun r hr => by
            unfold kh_m
            by_cases z1 : r < 16 * 16 ∧ bt ls (r / 16) = true
            · rw [if_pos z1]; exact hV r hr
            · rw [if_neg z1, told r hr]
              refine hln r hr ?_
              cases hbb : bt ls (r / 16) with
              | false => rfl
              | true => exact absurd ⟨by omega, hbb⟩ z1
          refine step _ _ hno (kf_sI hfW (by rw [show ka_K (kW h' (sb (qSh Q q i) + 3) F K (kh_m ls (ka_I h' (sb (qSh Q q i) + 3)) (kVo Q sb h' (qSh Q q i) 3) 16)) (sb (qSh Q q i)) = ka_K h' (sb (qSh Q q i)) from rfl, cs.K]; decide)) (kTs.of w' hs rfl rfl (fun _ => rfl) (fun _ => rfl) (oI _) (fun k hk => by rw [ka_IJ _ _ _ _ hk, kW_In (by omega) (by omega) (by omega)])) (fun r hr => ?_) (fun a ha hz b hbb => ?_)
          · rw [kI_o _ _ _ (by omega), kW_Ic]; exact nw r hr
          · rw [ka_IS] at hz
            cases hbl : bt ls a with
            | false => exact hln (16 * a + b) (by omega) (by rw [show (16 * a + b) / 16 = a by omega]; exact hbl)
            | true =>
              have := kv_am_bt 16 (Nat.le_refl _) a ha hz hbl b hbb
              rw [← told _ (by omega), this]
              have := hV (16 * a + b) (by omega)
              rw [show (16 * a + b) / 16 = a by omega, show (16 * a + b) % 16 = b by omega] at this
              exact this
        · -- a table
          have u0 : (qKy Q (qSh Q q i)).1 = 0 := by
            have : 1000000 + (qKy Q (qSh Q q i)).1 = 1000000 := u
            omega
          have u0' : (kNx Q q i).1 = 0 := by rw [← y1]; exact u0
          have hk4 := (wk _ hs).1.2.1.1
          have k3 := cs.1.2.1.2.2.2.1
          refine ⟨cs.K, ?_⟩
          rw [cs.1.2.2.2.1.2.1, if_pos u0]
          refine ⟨fun x => ⟨cs.K, ?_⟩, fun x => ?_⟩
          · -- another table
            have hne : (qKy Q (qSh Q q i)).2.1 ≠ t := fun y => x (by rw [y])
            have same : ∀ r, kSV (qKy Q) T (qSh Q q i) r = kSV (qKy Q) (tU T t c v) (qSh Q q i) r := fun r => by rw [kSV_0 u0, kSV_0 u0, tU_N _ _ (fun y => hne y.1)]
            refine step _ _ hno (kf_sI f1 (by rw [cs.K]; decide)) (kTs.of w' hs rfl rfl (fun _ => rfl) (fun _ => rfl) (fun a _ _ a3 _ => kI_o _ _ _ a3) (fun k hk => ka_IJ _ _ _ _ hk)) (fun r hr => ?_) (fun a _ _ b _ => same _)
            rw [kI_o _ _ _ (by omega), told r hr]
            exact same r
          · have he : (qKy Q (qSh Q q i)).2.1 = t := (nI_eq (by omega) (by omega)).mp x
            have sv : ∀ T' r, kSV (qKy Q) T' (qSh Q q i) r = T' t r := fun T' r => by rw [kSV_0 u0, he]
            refine kc_setTried f1 w' hs hc ⟨kf_sI f1 (by rw [k3]; decide), ⟨cs.K, ?_⟩⟩
            have tc : ka_I h' (sb (qSh Q q i) + 3) c = T t c := by rw [told c hc, sv]
            refine step _ _ hno (kf_sI (kf_sI f1 (by rw [k3]; decide)) (by rw [show ka_K (ka_sI h' (sb (qSh Q q i) + 3) c v) (sb (qSh Q q i)) = ka_K h' (sb (qSh Q q i)) from rfl, cs.K]; decide)) (kTs.of w' hs rfl rfl (fun _ => rfl) (fun _ => rfl) (fun a _ _ a3 a4 => by rw [kI_o _ _ _ a3, kI_o _ _ _ a4]) (fun k hk => by rw [ka_IJ _ _ _ _ hk, kI_o _ _ _ (by omega)])) (fun r hr => ?_) (fun a ha hz b hbb => ?_)
            · rw [kI_o _ _ _ (by omega), sv]
              by_cases z1 : r = c
              · rw [z1, ka_IS, tU_S]
              · rw [ka_IJ _ _ _ _ z1, told r hr, sv, tU_N _ _ (fun y => z1 y.2)]
            · rw [ka_IS, tc] at hz
              rw [sv, sv]
              by_cases z1 : 16 * a + b = c
              · rw [z1, tU_S]
                by_cases z2 : T t c = v
                · exact z2
                · rw [if_neg z2, b_one (by omega) (by omega), decide_eq_true (by omega)] at hz
                  cases hz
              · rw [tU_N _ _ (fun y => z1 y.2)]
  refine kd_in hf rfl rfl rfl (kd_seg (fun p => Nat.beq p 3) 10 ?_)
  exact main _ 0 (Nat.zero_add _) h _ hf kTf.rfl' (fun j hj => ⟨fun x => (by cases x), fun _ => hT j hj⟩)
end T3
