/-! ===== calls that tell: the ends, by the question, a node or a table, and rows ===== -/
def kmp213 (c e : Nat) : Prop := (c = 1 ∧ e = 2) ∨ (c = 2 ∧ e = 1) ∨ (c = 3 ∧ e = 0)
def kmp20 (c e : Nat) : Prop := (c = 1 ∧ e = 2) ∨ (c = 2 ∧ e = 0)
abbrev kQv (Q : kAq) (v : Int32) (q : Nat) : Prop := v = nI q ∧ q < qQ Q ∧ qLf Q q = false
def kGx (D x : Nat) (as : List Value) (A : kA) (v : Int32) (P1 : Nat → Prop) (P2 : Prop) (val : Nat → Int32) : Prop := ∀ (g : Nat × (Nat → Int32)) (h : ka_H) (R : ka_R → ka_H → Prop), kf g h → h.1 + 64 ≤ 1000000 → kcA A h → (¬ kIsQ A.2.2.1 v → R (.inr (2, h.1)) (kx h 2)) → (∀ q, kQv A.2.2.1 v q → ¬ P1 q → R (.inr (1, h.1)) (kx h 1)) → (∀ q, kQv A.2.2.1 v q → P1 q → ¬ P2 → R (.inr (0, h.1)) (kx h 0)) → (∀ q, kQv A.2.2.1 v q → P1 q → P2 → ∀ h', kf g h' → kcA A h' → kFc h h' → R (kp_ri (val q)) h') → kp_T D x (.ref 1 :: as) h R
def kGm (D m : Nat) (as : List Value) (A : kA) (v : Int32) (P1 : Nat → Prop) (P2 : Prop) (c2 : Nat) (val : Nat → Int32) : Prop := ∀ (g : Nat × (Nat → Int32)) (h : ka_H) (R : ka_R → ka_H → Prop), kf g h → kmA A h → (¬ kIsQ A.2.2.1 v → R (kp_ri 0) (km_t h 1)) → (∀ q, kQv A.2.2.1 v q → ¬ P1 q → R (kp_ri 0) (km_t h 2)) → (∀ q, kQv A.2.2.1 v q → P1 q → ¬ P2 → R (kp_ri 0) (km_t h (nI c2))) → (∀ q, kQv A.2.2.1 v q → P1 q → P2 → ∀ h', kf g h' → kmA A h' → kFm h h' → ka_I h' 72 0 = 0 → R (kp_ri (val q)) h') → kp_T D m (.ref 72 :: as) h R
section GE
variable {A : kA} {D x m c2 : Nat} {as : List Value} {v : Int32} {P1 : Nat → Prop} {P2 : Prop} {val : Nat → Int32} {mp : Nat → Nat → Prop}
theorem ko_gen (w : kWA A) (hc2 : c2 = 2 ∨ c2 = 3) (m1 : mp 1 2) (m2 : ∀ q, ¬ P1 q → mp 2 1) (m3 : ¬ P2 → mp c2 0) (cx : kGx D x as A v P1 P2 val) (cm : kGm D m as A v P1 P2 c2 val) : kOx mp D x m as A := by
  have w6 := w.2.2.1.1
  have un : ∀ q q', kQv A.2.2.1 v q → kQv A.2.2.1 v q' → q' = q := fun q q' a b => kIsQ_u w6 a.1 a.2.1 b.1 b.2.1
  by_cases c : kIsQ A.2.2.1 v
  · obtain ⟨q, hq⟩ := c
    by_cases c1 : P1 q
    · by_cases c3 : P2
      · refine ⟨A, 0, 0, val q, w, fun z => absurd rfl z, fun g h R hf hb hC e0 e1 => ?_, fun g h R hf hM e3 => ?_⟩
        · exact cx g h R hf hb hC (fun z => absurd ⟨q, hq⟩ z) (fun q' h' z => absurd c1 (by rw [← un q q' hq h']; exact z)) (fun _ _ _ z => absurd c3 z) (fun q' h' _ _ h2 f1 f2 f3 => by rw [un q q' hq h']; exact e1 rfl h2 f1 f2 f3)
        · exact cm g h R hf hM (fun z => absurd ⟨q, hq⟩ z) (fun q' h' z => absurd c1 (by rw [← un q q' hq h']; exact z)) (fun _ _ _ z => absurd c3 z) (fun q' h' _ _ h2 f1 f2 f3 f4 => by rw [un q q' hq h']; exact e3 h2 _ f1 f2 f3 f4 (fun _ => rfl))
      · have hne : c2 ≠ 0 := by omega
        refine ⟨A, c2, 0, 0, w, fun _ => ⟨rfl, m3 c3⟩, fun g h R hf hb hC e0 e1 => ?_, fun g h R hf hM e3 => ?_⟩
        · exact cx g h R hf hb hC (fun z => absurd ⟨q, hq⟩ z) (fun q' h' z => absurd c1 (by rw [← un q q' hq h']; exact z)) (fun _ _ _ _ => e0 hne) (fun _ _ _ z => absurd z c3)
        · exact cm g h R hf hM (fun z => absurd ⟨q, hq⟩ z) (fun q' h' z => absurd c1 (by rw [← un q q' hq h']; exact z)) (fun _ _ _ _ => e3 _ _ (kf_m (kf_m hf)) hM.mt kFm.mt rfl (fun z => absurd z hne)) (fun _ _ _ z => absurd z c3)
    · refine ⟨A, 2, 1, 0, w, fun _ => ⟨rfl, m2 q c1⟩, fun g h R hf hb hC e0 e1 => ?_, fun g h R hf hM e3 => ?_⟩
      · exact cx g h R hf hb hC (fun z => absurd ⟨q, hq⟩ z) (fun _ _ _ => e0 (by decide)) (fun q' h' z => absurd (by rw [← un q q' hq h']; exact z) c1) (fun q' h' z => absurd (by rw [← un q q' hq h']; exact z) c1)
      · exact cm g h R hf hM (fun z => absurd ⟨q, hq⟩ z) (fun _ _ _ => e3 _ _ (kf_m (kf_m hf)) hM.mt kFm.mt rfl (fun z => by cases z)) (fun q' h' z => absurd (by rw [← un q q' hq h']; exact z) c1) (fun q' h' z => absurd (by rw [← un q q' hq h']; exact z) c1)
  · refine ⟨A, 1, 2, 0, w, fun _ => ⟨rfl, m1⟩, fun g h R hf hb hC e0 e1 => ?_, fun g h R hf hM e3 => ?_⟩
    · exact cx g h R hf hb hC (fun _ => e0 (by decide)) (fun q hq _ => absurd ⟨q, hq⟩ c) (fun q hq _ => absurd ⟨q, hq⟩ c) (fun q hq _ => absurd ⟨q, hq⟩ c)
    · exact cm g h R hf hM (fun _ => e3 _ _ (kf_m (kf_m hf)) hM.mt kFm.mt rfl (fun z => by cases z)) (fun q hq _ => absurd ⟨q, hq⟩ c) (fun q hq _ => absurd ⟨q, hq⟩ c) (fun q hq _ => absurd ⟨q, hq⟩ c)
end GE
/-! ===== the reference works a question out ===== -/
/-- what working out leaves as it was -/
def kPl (h h' : ka_H) : Prop := kFm h h' ∧ (∀ k, k ≠ 40 → ka_I h' 72 k = ka_I h 72 k) ∧ ∀ a, 73 ≤ a → a ≤ 101 → a ≠ 95 → a ≠ 96 → a ≠ 97 → ka_I h' a = ka_I h a
theorem kPl.rfl' {h : ka_H} : kPl h h := ⟨kFm.rfl', fun _ _ => rfl, fun _ _ _ _ _ _ => rfl⟩
theorem kFm.tr {h h' h'' : ka_H} (a : kFm h h') (b : kFm h' h'') : kFm h h'' := ⟨b.1.trans a.1, b.2.1.trans a.2.1, fun x => (b.2.2.1 x).trans (a.2.2.1 x), fun x => (b.2.2.2.1 x).trans (a.2.2.2.1 x), fun x => (b.2.2.2.2.1 x).trans (a.2.2.2.2.1 x), fun x hx => (b.2.2.2.2.2 x hx).trans (a.2.2.2.2.2 x hx)⟩
theorem kPl.tr {h h' h'' : ka_H} (a : kPl h h') (b : kPl h' h'') : kPl h h'' := ⟨a.1.tr b.1, fun k hk => (b.2.1 k hk).trans (a.2.1 k hk), fun x h1 h2 h3 h4 h5 => (b.2.2 x h1 h2 h3 h4 h5).trans (a.2.2 x h1 h2 h3 h4 h5)⟩
theorem kPl.ma {A : kA} {h h' : ka_H} (p : kPl h h') (q : kmA A h) : kmA A h' := q.st (fun k hk => p.2.1 k (by omega)) (fun a a1 a2 _ _ a5 a6 a7 _ => p.2.2 a (by omega) (by omega) a5 a6 a7)
theorem kPl.mM {h : ka_H} {F S : Nat → Int32} : kPl h (kM h F S) := ⟨⟨rfl, rfl, fun _ => rfl, fun _ => rfl, fun _ => rfl, fun a ha => kM_In (by omega) (by omega)⟩, fun k _ => by rw [kM_In (by decide) (by decide)], fun a a1 a2 a3 a4 a5 => kM_In a4 a5⟩
theorem kPl.mP {h : ka_H} : kPl h (kP h) := ⟨⟨rfl, rfl, fun _ => rfl, fun _ => rfl, fun _ => rfl, fun a ha => funext fun k => kP_In h k (by omega) (Or.inl (by omega))⟩, fun k hk => kP_In h k (by decide) (Or.inr hk), fun a a1 a2 a3 a4 a5 => funext fun k => kP_In h k a3 (Or.inl (by omega))⟩
def kN0 : kN := (0, 0, 0, 0, 0, [], [], fun _ _ => false)
abbrev kNx (Q : kAq) (q j : Nat) : kN := ((qNd Q q)[j]?).getD kN0
section PQ
variable {g : Nat × (Nat → Int32)} {d : Nat} {h : ka_H} {R : ka_R → ka_H → Prop} {L : kAl} {Q : kAq} {q k n : Nat} {u : Int32}
theorem kNx_some {j : Nat} {x : kN} (hx : (qNd Q q)[j]? = some x) : kNx Q q j = x := by unfold kNx; rw [hx]; rfl
/-- the reference's nodes are such as its works want -/
theorem kmq.kNd {c : Nat} (mq : kmq Q h) (wq : kWq c Q) (hq : q < qQ Q) {j : Nat} (hj : j < (qNd Q q).length) : kNd h (12 * q + j) j (kNx Q q j).1 (kNx Q q j).2.1 (kNx Q q j).2.2.1 (kNx Q q j).2.2.2.1 (kHb (kNx Q q j).2.2.2.2.2.1) := by
  obtain ⟨x, hx⟩ := kls_at hj
  rw [kNx_some hx]
  obtain ⟨m1, m2, m3, m4, m5, m6, m7, m8⟩ := ((mq.2.2.2.1 q hq).2.2 j x hx).1
  obtain ⟨⟨n1, n2, n3, n4, n5, n6, n7, n8, n9, n10, n11⟩, -, ⟨n12, -⟩, -⟩ := (wq.2.2.2.2 q hq).2.1 j x hx
  rw [Nat.zero_add] at n3 n4
  refine ⟨m1, n1, fun z => ⟨by rw [m2, if_pos z], n2 z, by rw [m3, if_pos z], by rw [m4, if_neg (by omega)]⟩, fun z => ⟨by rw [m3, if_neg (by omega)], n3 z⟩, fun z1 z2 => ⟨by rw [m4, if_pos ⟨z1, z2⟩], n4 z1 z2⟩, fun _ z => by rw [m4, if_neg z], fun z => ⟨_, x.2.2.2.2.2.2.1, m6, rfl, n11, m8, fun a b ha hb S => ?_⟩⟩
  obtain ⟨S', s1, s2, -⟩ := (n8 z).1 a b 0 S ha hb (by omega)
  refine ⟨_, s1, ?_⟩
  rw [kHb_bt _ hb, kHk_eq (n12 z), show ((0 + 1, S') : Nat × (Nat → Int32)).2 0 = S' 0 from rfl, s2]
  cases x.2.2.2.2.2.2.2 a b with
  | true => exact ⟨fun _ => rfl, fun _ => rfl⟩
  | false => exact ⟨fun z => absurd z (by decide), fun z => by cases z⟩
/-- what a node has, by its shelf's key -/
theorem kSV_nd {c : Nat} {T : Nat → Nat → Int32} (wq : kWq c Q) (hq : q < qQ Q) {j : Nat} (hj : j < (qNd Q q).length) {r : Nat} (hr : r < 256) : kSV (qKy Q) T (qSh Q q j) r = if (kNx Q q j).1 = 0 then T (kNx Q q j).2.1 r else kv_op (kNx Q q j).1 (kHb (kNx Q q j).2.2.2.2.2.1) (kSV (qKy Q) T (qSh Q q (kNx Q q j).2.2.1)) (kSV (qKy Q) T (qSh Q q (kNx Q q j).2.2.2.1)) (r / 16) (r % 16) := by
  obtain ⟨x, hx⟩ := kls_at hj
  rw [kNx_some hx]
  obtain ⟨hs, hky⟩ := (wq.2.2.2.2 q hq).2.2 j x hx
  have e1 : (qKy Q (qSh Q q j)).1 = x.1 := by rw [hky]; rfl
  have e5 : (qKy Q (qSh Q q j)).2.2.2.2 = x.2.2.2.2.2.1 := by rw [hky]; rfl
  by_cases z : x.1 = 0
  · rw [if_pos z, kSV_0 (by rw [e1]; exact z)]
    rw [show (qKy Q (qSh Q q j)).2.1 = x.2.1 by rw [hky]; exact if_pos z]
  · rw [if_neg z, kSV_1 (wq.2.2.2.1 _ hs).1 (by rw [e1]; exact z), e1, e5]
    have e3 : (qKy Q (qSh Q q j)).2.2.1 - 1 = qSh Q q x.2.2.1 := by rw [hky]; show (if x.1 = 0 then 0 else qSh Q q x.2.2.1 + 1) - 1 = _; rw [if_neg z, Nat.add_sub_cancel]
    refine kv_op_cg _ r (fun _ _ _ _ _ => rfl) (fun y _ => by rw [e3]) (fun z9 y _ => ?_) hr
    have e4 : (qKy Q (qSh Q q j)).2.2.2.1 - 1 = qSh Q q x.2.2.2.1 := by rw [hky]; show (if 9 ≤ x.1 ∧ x.1 ≤ 12 then qSh Q q x.2.2.2.1 + 1 else 0) - 1 = _; rw [if_pos z9, Nat.add_sub_cancel]
    rw [e4]
theorem kml.row (ml : kml L h) (wl : kWl L) : ∀ k, k < lNn L → ∃ c, c < 256 ∧ ka_I h 74 k = nI c := fun k hk => by
  obtain ⟨-, ⟨r, hr, e⟩, -⟩ := wl.2.2.1 k hk
  exact ⟨r, hr, (ml.2.2.2 k hk).2.1.trans e⟩
theorem kml.ct (ml : kml L h) (wl : kWl L) {t r : Nat} (hn : n ≤ 100) : kp_sum (km_ct h (nI t) (nI r) (nI n)) (lNn L) = lT L (lE L n) t r := by
  rw [← lT_m wl hn]
  refine kp_sum_cg _ (fun k hk => ?_)
  obtain ⟨y1, y2, y3, y4, -⟩ := ml.2.2.2 k hk
  unfold km_ct
  rw [y1, y2, y3, y4]
/-- the reference works out a question up to a node: nothing off, no row more -/
theorem kc_plainQ {c : Nat} (eu : u = nI k) (hf : kf g h) (ml : kml L h) (wl : kWl L) (mq : kmq Q h) (wq : kWq c Q) (hq : q < qQ Q) (hk : k < (qNd Q q).length) (hn : n ≤ 100)
    (e : ∀ h', kf g h' → kPl h h' → (∀ j r, j ≤ k → r < 256 → ka_I h' 96 (256 * j + r) = kSV (qKy Q) (lT L (lE L n)) (qSh Q q j) r) → (∀ r, r < 1024 → ka_I h' 95 r = 0) → ka_I h' 72 40 = -1 → R (.inl none) h') : kp_T (d + 5) 207 [.ref 72, .int (nI q), .int u, .int (nI n)] h R := by
  rw [eu]
  have h6 := wq.1
  have h12 := (wq.2.2.2.2 q hq).1.2
  refine kc_plain (n := lNn L) (NV := fun j => kSV (qKy Q) (lT L (lE L n)) (qSh Q q j)) hf (by omega) (by omega) (fun j hj => mq.kNd wq hq (by omega)) ml.1 wl.1 (ml.row wl) (fun j r hj hr => ?_) (fun F S hF => ?_)
  · rw [kSV_nd wq hq (by omega) hr, ml.ct wl hn]
  · refine e _ (kM_f (kP_f hf)) (kPl.mP.tr kPl.mM) (fun j r hj hr => ?_) (fun r hr => ?_) ?_
    · rw [kM_I96]; exact hF j r hj hr
    · rw [kM_In (by decide) (by decide)]; exact kP_95 h hr
    · rw [kM_In (by decide) (by decide)]; exact kP_40 h
end PQ
