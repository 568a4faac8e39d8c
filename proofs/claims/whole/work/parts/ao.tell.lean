/-! ===== weight, answer, size, row, digest ===== -/
/-- what a call that tells leaves of the reference as it was -/
def kPq (h h' : ka_H) : Prop := kFm h h' ∧ (∀ k, k ≠ 40 → ka_I h' 72 k = ka_I h 72 k) ∧ ∀ a, 73 ≤ a → a ≤ 100 → a ≠ 95 → a ≠ 96 → a ≠ 97 → a ≠ 98 → ka_I h' a = ka_I h a
theorem kPl.pq {h h' : ka_H} (p : kPl h h') : kPq h h' := ⟨p.1, p.2.1, fun a a1 a2 a3 a4 a5 _ => p.2.2 a a1 (by omega) a3 a4 a5⟩
theorem kPq.rfl' {h : ka_H} : kPq h h := ⟨kFm.rfl', fun _ _ => rfl, fun _ _ _ _ _ _ _ => rfl⟩
theorem kPq.tr {h h' h'' : ka_H} (a : kPq h h') (b : kPq h' h'') : kPq h h'' := ⟨a.1.tr b.1, fun k hk => (b.2.1 k hk).trans (a.2.1 k hk), fun x h1 h2 h3 h4 h5 h6 => (b.2.2 x h1 h2 h3 h4 h5 h6).trans (a.2.2 x h1 h2 h3 h4 h5 h6)⟩
theorem kPq.ma {A : kA} {h h' : ka_H} (p : kPq h h') (q : kmA A h) : kmA A h' := q.st (fun k hk => p.2.1 k (by omega)) (fun a a1 a2 _ _ a5 a6 a7 a8 => p.2.2 a (by omega) (by omega) a5 a6 a7 a8)
section GO
variable {A : kA} {m c2 : Nat} {as Lc : List Value} {v : Int32} {P1 : Nat → Prop} {P2 : Prop} {val : Nat → Int32}
theorem kGm_of (pre : ∀ (g : Nat × (Nat → Int32)) (h : ka_H) (R : ka_R → ka_H → Prop), kf g h → kq_ex g 199 m R 5 Lc [] (km_0 h) → kp_T 200 m (.ref 72 :: as) h R)
    (k : ∀ (g : Nat × (Nat → Int32)) (H : ka_H) (R : ka_R → ka_H → Prop), kf g H → kmA A H → ka_I H 72 0 = 0 → (¬ kIsQ A.2.2.1 v → R (kp_ri 0) (ka_sI H 72 0 1)) → (∀ q, kQv A.2.2.1 v q → ¬ P1 q → R (kp_ri 0) (ka_sI H 72 0 2)) → (∀ q, kQv A.2.2.1 v q → P1 q → ¬ P2 → R (kp_ri 0) (ka_sI H 72 0 (nI c2))) → (∀ q, kQv A.2.2.1 v q → P1 q → P2 → ∀ h', kf g h' → kPq H h' → R (kp_ri (val q)) h') → kq_ex g 199 m R 5 Lc [] H) : kGm 200 m as A v P1 P2 c2 val := fun g h R hf hM e0 e1 e2 e3 =>
  pre g h R hf (k g (km_0 h) R (kf_m hf) hM.m0 rfl e0 e1 e2 (fun q hq p1 p2 h' f1 f2 => e3 q hq p1 p2 h' f1 (f2.ma hM.m0) (kFm.m0.tr f2.1) ((f2.2.1 0 (by decide)).trans rfl)))
end GO
noncomputable def kVal (A : kA) (s : Nat) (e : Int32) (f : (Nat → Int32) → Int32) (z : Int32) : Int32 := @ite _ (kTd1 A.1 A.2.2.1 s e) (Classical.propDecidable _) (f (kSV (qKy A.2.2.1) (lT A.1 (lE A.1 e.toNatClampNeg)) s)) z
section TE
variable {A : kA} {g : Nat × (Nat → Int32)} {d : Nat} {h : ka_H} {R : ka_R → ka_H → Prop} {sb qb st : Nat → Nat} {q k n s : Nat} {ed z : Int32} {f : (Nat → Int32) → Int32}
theorem kVal_T (t : kTd1 A.1 A.2.2.1 s (nI n)) (hn : n < 2 ^ 31) : kVal A s (nI n) f z = f (kSV (qKy A.2.2.1) (lT A.1 (lE A.1 n)) s) := by
  unfold kVal
  rw [if_pos t, nI_clamp hn]
theorem kVal_F (t : ¬ kTd1 A.1 A.2.2.1 s ed) : kVal A s ed f z = z := if_neg t
theorem qF_le {L : kAl} {Q : kAq} (w : kWq (lC L) Q) {s : Nat} (hs : s < qN Q) : qF L Q s ≤ lC L := by
  have := (w.2.2.2.1 s hs).2
  unfold qF
  split <;> omega
theorem kTd1.lt (w : kWA A) (hs : s < qN A.2.2.1) (t : kTd1 A.1 A.2.2.1 s ed) : ∃ n, ed = nI n ∧ n < lC A.1 := by
  obtain ⟨n, e, h1, -⟩ := t
  exact ⟨n, e, Nat.lt_of_lt_of_le h1 (qF_le w.2.2.1 hs)⟩
theorem kWq.sh {c : Nat} {Q : kAq} (w : kWq c Q) (hq : q < qQ Q) (hk : k < (qNd Q q).length) : qSh Q q k < qN Q := by
  obtain ⟨x, hx⟩ := kls_at hk
  exact ((w.2.2.2.2 q hq).2.2 k x hx).1
/-- the class: is an edition told of a node -/
theorem kx_told (hf : kf g h) (hC : kcl A.1 h) (w : kWA A) (q4 : kcq A.1 A.2.2.1 sb qb st h) (hq : q < qQ A.2.2.1) (hk : k < (qNd A.2.2.1 q).length) (e1 : ∀ n, ed = nI n → n < lC A.1 → kTd1 A.1 A.2.2.1 (qSh A.2.2.1 q k) ed → R (kp_ri 1) h) (e0 : ¬ kTd1 A.1 A.2.2.1 (qSh A.2.2.1 q k) ed → R (kp_ri 0) h) : kp_T (d + 2) 132 [.ref 1, .ref (sb (qSh A.2.2.1 q k)), .int ed] h R := by
  obtain ⟨-, hs, cs, h13⟩ := q4.nd w.2.2.1 hq hk
  have hc := w.1.2.1
  have hfo := w.2.2.1.2.2.1
  exact kc_isTold hf hC q4.1.2.2 cs h13 (w.2.2.1.F hc _ hs) (by omega) (fun t => by obtain ⟨n, e, hn⟩ := t.lt w hs; exact e1 n e hn t) e0
theorem kx_toldW (hf : kf g h) (hC : kcl A.1 h) (w : kWA A) (q4 : kcq A.1 A.2.2.1 sb qb st h) (hq : q < qQ A.2.2.1) (e1 : ∀ n, ed = nI n → n < lC A.1 → kTd1 A.1 A.2.2.1 (qSh A.2.2.1 q ((qNd A.2.2.1 q).length - 1)) ed → R (kp_ri 1) h) (e0 : ¬ kTd1 A.1 A.2.2.1 (qSh A.2.2.1 q ((qNd A.2.2.1 q).length - 1)) ed → R (kp_ri 0) h) : kp_T (d + 3) 133 [.ref 1, .ref (qb q), .int ed] h R := by
  obtain ⟨h1, h12⟩ := (w.2.2.1.2.2.2.2 q hq).1
  obtain ⟨hp, hs, cs, h13⟩ := q4.nd w.2.2.1 hq (k := (qNd A.2.2.1 q).length - 1) (by omega)
  have hc := w.1.2.1
  have hfo := w.2.2.1.2.2.1
  exact kc_isToldWhole hf hC q4.1.2.2 (q4.2.2.2.2.2.2.1 q hq).1 h1 hp cs h13 (w.2.2.1.F hc _ hs) (by omega) (fun t => by obtain ⟨n, e, hn⟩ := t.lt w hs; exact e1 n e hn t) e0
/-- the class: a node's counts as of a closed edition -/
theorem kx_cnt {u : Int32} (eu : u = nI k) (hf : kf g h) (hC : kcA A h) (w : kWA A) (q4 : kcq A.1 A.2.2.1 sb qb st h) (hq : q < qQ A.2.2.1) (hk : k < (qNd A.2.2.1 q).length) (hn : n < lC A.1)
    (e : ∀ h' st', kf g h' → kBf h h' → kcA A h' → kcq A.1 A.2.2.1 sb qb st' h' → kr h' (sb (qSh A.2.2.1 q k) + 2) 256 → (∀ r, r < 256 → ka_I h' (sb (qSh A.2.2.1 q k) + 2) r = kSV (qKy A.2.2.1) (lT A.1 (lE A.1 n)) (qSh A.2.2.1 q k) r) → R (.inl (some (.ref (sb (qSh A.2.2.1 q k) + 2)))) h') : kp_T (d + 6) 135 [.ref 1, .ref (qb q), .int u, .int (nI n)] h R := by
  rw [eu]
  have hc := w.1.2.1
  have hs := w.2.2.1.sh hq hk
  refine kc_countsAsOf hf hC.1 w.1 q4 w.2.2.1 hq hk (kl_endN hC.1 w.1 (by omega)) (lE_Z w.1 hn) (fun h' st' f1 f2 f3 f4 f5 f6 => ?_)
  have q3 := (f4.2.2.2.2.1 _ hs).1.2.1.2.2.1
  exact e h' st' f1 f2 ⟨f2.cl hC.1, f2.ct hC.2.1, f2.cr hC.2.2.1, sb, qb, st', f4⟩ f4 ⟨by rw [q3], by rw [q3]⟩ f5
/-- the reference: a question worked out, by the state -/
theorem km_plain {u : Int32} (eu : u = nI k) (hf : kf g h) (hM : kmA A h) (w : kWA A) (hq : q < qQ A.2.2.1) (hk : k < (qNd A.2.2.1 q).length) (hn : n < lC A.1)
    (e : ∀ h', kf g h' → kPl h h' → kmA A h' → (∀ j r, j ≤ k → r < 256 → ka_I h' 96 (256 * j + r) = kSV (qKy A.2.2.1) (lT A.1 (lE A.1 n)) (qSh A.2.2.1 q j) r) → (∀ r, r < 1024 → ka_I h' 95 r = 0) → ka_I h' 72 40 = -1 → R (.inl none) h') : kp_T (d + 5) 207 [.ref 72, .int (nI q), .int u, .int (nI n)] h R := by
  have hc := w.1.2.1
  exact kc_plainQ eu hf hM.1 w.1 hM.2.2.1 w.2.2.1 hq hk (by omega) (fun h' f1 f2 f3 f4 f5 => e h' f1 f2 (f2.ma hM) f3 f4 f5)
end TE
def kAn (v : Int32) : Int32 := if 0 < v then v else 0
theorem kAn_c (v : Int32) : (if v < 0 then 0 else v) = kAn v := by
  unfold kAn
  by_cases c : 0 < v
  · rw [if_pos c, if_neg (fun z => Int32.lt_asymm z c)]
  · rw [if_neg c]
    by_cases c2 : v < 0
    · rw [if_pos c2]
    · rw [if_neg c2]
      exact Int32.le_antisymm (Int32.not_lt.mp c) (Int32.not_lt.mp c2)
theorem kAn_T {v : Int32} (h : 0 < v) : kAn v = v := if_pos h
theorem kAn_F {v : Int32} (h : ¬ 0 < v) : kAn v = 0 := if_neg h
theorem kAn_0 {v : Int32} : kAn v = 0 ↔ ¬ 0 < v := by
  by_cases c : 0 < v
  · rw [kAn_T c]
    exact ⟨fun z => absurd c (by rw [z]; decide), fun z => absurd c z⟩
  · rw [kAn_F c]
    exact ⟨fun _ => c, fun _ => rfl⟩
theorem kAn_p {v : Int32} : 0 < kAn v ↔ 0 < v := by
  by_cases c : 0 < v
  · rw [kAn_T c]
  · rw [kAn_F c]
    exact ⟨fun z => absurd z (by decide), fun z => absurd z c⟩
section TA
variable {A : kA} {g : Nat × (Nat → Int32)} {d : Nat} {h : ka_H} {R : ka_R → ka_H → Prop} {q r : Nat}
theorem km_answerAt {u : Int32} (eu : u = nI r) (hf : kf g h) (hM : kmA A h) (w : kWA A) (hq : q < qQ A.2.2.1) (hr : r < 256) : kp_T (d + 1) 211 [.ref 72, .int (nI q), .int u] h (kp_is (.int (kAn (ka_I h 96 (256 * ((qNd A.2.2.1 q).length - 1) + r)))) h) := by
  have w6 := w.2.2.1.1
  obtain ⟨h1, h12⟩ := (w.2.2.1.2.2.2.2 q hq).1
  rw [eu, ← kAn_c]
  exact kc_answerAt hf (by omega) (hM.2.2.1.2.2.2.1 q hq).2.1 h1 h12 hr
end TA
section TW
variable {A : kA}
theorem ko_weight (w : kWA A) (v u ed a b : Int32) : kOx kmp213 200 102 209 [.int v, .int u, .int ed, .int a, .int b] A := by
  have hc := w.1.2.1
  have w6 := w.2.2.1.1
  refine ko_gen (v := v) (P1 := fun q => kIsN (qNd A.2.2.1 q).length u) (P2 := kp_row a b) (c2 := 3) (val := fun q => kVal A (qSh A.2.2.1 q u.toNatClampNeg) ed (fun V => V (16 * a.toNatClampNeg + b.toNatClampNeg)) (Int32.ofInt 2147483648)) w (Or.inr rfl) (Or.inl ⟨rfl, rfl⟩) (fun _ _ => Or.inr (Or.inl ⟨rfl, rfl⟩)) (fun _ => Or.inr (Or.inr ⟨rfl, rfl⟩)) (fun g h R hf hb hC e0 e1 e2 e3 => ?_) (kGm_of (Lc := [.ref 72, .int v, .int u, .int ed, .int a, .int b]) (fun g h R hf k => kq_in hf rfl rfl rfl (kq_seg (fun p => Nat.beq p 5) 10 k)) (fun g h R hf hM h0 e0 e1 e2 e3 => ?_))
  · refine kd_in (d := 199) hf rfl rfl rfl (kd_seg kp_no 40 ⟨kK hf rfl rfl, ?_⟩)
    refine kx_q hf hb hC w (fun z => ⟨kf_new hf (by omega), e0 z⟩) (fun sb qb st q q4 ev hq hlf => ⟨hf, ?_⟩)
    refine kx_s hf hb q4 w hq (fun z => ⟨kf_new hf (by omega), e1 q ⟨ev, hq, hlf⟩ z⟩) (fun k eu hk => ⟨hf, ?_⟩)
    have h12 := (w.2.2.1.2.2.2.2 q hq).1.2
    refine kc_cellOf hf (by omega) (fun z => ⟨kf_new hf (by omega), e2 q ⟨ev, hq, hlf⟩ ⟨k, eu, hk⟩ z⟩) (fun z => ⟨hf, ?_⟩)
    obtain ⟨x, y, hx, hy, rfl, rfl, hxy⟩ := kp_rowN z
    rw [hxy]
    refine ⟨kK hf rfl rfl, ?_⟩
    refine kx_told hf hC.1 w q4 hq hk (fun n en hn t => ⟨hf, ⟨fun y => absurd y (by decide), fun _ => ⟨kK hf rfl rfl, ?_⟩⟩⟩) (fun t => ⟨hf, ⟨fun _ => ⟨trivial, ?_⟩, fun y => absurd rfl y⟩⟩)
    · subst eu
      subst en
      refine kx_cnt rfl hf hC w q4 hq hk hn (fun h' st' f1 f2 f3 f4 f5 f6 => ⟨f1, ⟨kr_in f5 (by omega) (by omega), ⟨trivial, ?_⟩⟩⟩)
      have e : R (kp_ri (kVal A (qSh A.2.2.1 q (nI k).toNatClampNeg) (nI n) (fun V => V (16 * (nI x).toNatClampNeg + (nI y).toNatClampNeg)) (Int32.ofInt 2147483648))) h' := e3 q ⟨ev, hq, hlf⟩ ⟨k, rfl, hk⟩ z h' f1 f3 f2.fc
      rw [nI_clamp (by omega), nI_clamp (by omega), nI_clamp (by omega), kVal_T t (by omega)] at e
      rw [nI_clamp (by omega), f6 _ (by omega)]
      exact e
    · subst eu
      have e : R (kp_ri (kVal A (qSh A.2.2.1 q (nI k).toNatClampNeg) ed (fun V => V (16 * (nI x).toNatClampNeg + (nI y).toNatClampNeg)) (Int32.ofInt 2147483648))) h := e3 q ⟨ev, hq, hlf⟩ ⟨k, rfl, hk⟩ z h hf hC kFc.rfl'
      rw [nI_clamp (by omega), kVal_F t] at e
      exact e
  · refine kq_seg kp_no 60 ?_
    refine kc_isNode hf h0 hM.2.2.1 w.2.2.1 (fun q k ev hq hlf eu hk => ⟨hf, ⟨fun z => absurd z (by decide), fun _ => ?_⟩⟩) (fun z => ⟨kf_m hf, ⟨fun _ => ⟨trivial, e0 z⟩, fun y => absurd rfl y⟩⟩) (fun q ev hq hlf z => ⟨kf_m hf, ⟨fun _ => ⟨trivial, e1 q ⟨ev, hq, hlf⟩ z⟩, fun y => absurd rfl y⟩⟩)
    have h12 := (w.2.2.1.2.2.2.2 q hq).1.2
    refine kq_ci (kc_isRow hf) hf ?_
    by_cases z : kp_row a b
    · rw [kp_bT z]
      refine kq_ci (kc_may1 (code := 3) hf h0) hf ⟨fun _ => ?_, fun y => absurd y (by decide)⟩
      subst ev
      subst eu
      obtain ⟨x, y, hx, hy, rfl, rfl, hxy⟩ := kp_rowN z
      refine kc_misTold hf hM.1 hM.2.2.1 w.2.2.1 hc hq hk (fun t => ⟨hf, ⟨fun _ => ?_, fun y => absurd y (by decide)⟩⟩) (fun t => ⟨hf, ⟨fun y => absurd rfl y, fun _ => ⟨trivial, ?_⟩⟩⟩)
      · obtain ⟨n, rfl, hn⟩ := t.lt w (w.2.2.1.sh hq hk)
        refine km_plain rfl hf hM w hq hk hn (fun h' f1 f2 f3 f4 f5 f6 => ⟨f1, ?_⟩)
        have ei : Int32.ofInt 256 * nI k + Int32.ofInt 16 * nI x + nI y = nI (256 * k + (16 * x + y)) := by rw [Int32.add_assoc, nI_cJ, nI_256m, nI_add]
        refine ⟨by rw [ei]; exact nI_in (N := 3072) (by omega) (by omega), ⟨trivial, ?_⟩⟩
        have e : R (kp_ri (kVal A (qSh A.2.2.1 q (nI k).toNatClampNeg) (nI n) (fun V => V (16 * (nI x).toNatClampNeg + (nI y).toNatClampNeg)) (Int32.ofInt 2147483648))) h' := e3 q ⟨rfl, hq, hlf⟩ ⟨k, rfl, hk⟩ z h' f1 f2.pq
        rw [nI_clamp (by omega), nI_clamp (by omega), nI_clamp (by omega), kVal_T t (by omega)] at e
        rw [ei, nI_clamp (by omega), show ka_I h' (kq_p h' 72 41) (256 * k + (16 * x + y)) = _ from f4 k (16 * x + y) (Nat.le_refl _) (by omega)]
        exact e
      · have e : R (kp_ri (kVal A (qSh A.2.2.1 q (nI k).toNatClampNeg) ed (fun V => V (16 * (nI x).toNatClampNeg + (nI y).toNatClampNeg)) (Int32.ofInt 2147483648))) h := e3 q ⟨rfl, hq, hlf⟩ ⟨k, rfl, hk⟩ z h hf kPq.rfl'
        rw [nI_clamp (by omega), kVal_F t] at e
        exact e
    · rw [kp_bF z]
      exact kq_ci (kc_may0 (code := 3) hf h0 (by decide)) (kf_m hf) ⟨fun y => absurd rfl y, fun _ => ⟨trivial, e2 q ⟨ev, hq, hlf⟩ ⟨k, eu, hk⟩ z⟩⟩
end TW
