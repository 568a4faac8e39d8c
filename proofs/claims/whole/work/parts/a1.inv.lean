/-! ===== the state, and how each side holds it ===== -/
abbrev kAt : Type := Nat × (Nat → Int32) × Int32
abbrev kAq : Type := Nat × (Nat → List kN) × (Nat → Nat → Nat) × (Nat → Bool) × Nat × (Nat → kKey) × (Nat → Nat) × Nat
abbrev kAr : Type := Nat × (Nat → Int32) × (Nat → Bool)
abbrev kA : Type := kAl × kAt × kAq × kAr
abbrev tF (T : kAt) : Nat := T.1
abbrev tP (T : kAt) : Nat → Int32 := T.2.1
abbrev tA (T : kAt) : Int32 := T.2.2
abbrev qQ (Q : kAq) : Nat := Q.1
abbrev qNd (Q : kAq) : Nat → List kN := Q.2.1
abbrev qSh (Q : kAq) : Nat → Nat → Nat := Q.2.2.1
abbrev qLf (Q : kAq) : Nat → Bool := Q.2.2.2.1
abbrev qN (Q : kAq) : Nat := Q.2.2.2.2.1
abbrev qKy (Q : kAq) : Nat → kKey := Q.2.2.2.2.2.1
abbrev qFr (Q : kAq) : Nat → Nat := Q.2.2.2.2.2.2.1
abbrev qFo (Q : kAq) : Nat := Q.2.2.2.2.2.2.2
abbrev rN (r : kAr) : Nat := r.1
abbrev rH (r : kAr) : Nat → Int32 := r.2.1
abbrev rG (r : kAr) : Nat → Bool := r.2.2
/-- how many hold -/
def kNum (p : Nat → Bool) : Nat → Nat
  | 0 => 0
  | n + 1 => kNum p n + (if p n = true then 1 else 0)
/-- does a question that isn't left use shelf s -/
def qU (Q : kAq) (s q : Nat) : Bool := !qLf Q q && kRp (qSh Q q) s (qNd Q q).length
def qC (Q : kAq) (s : Nat) : Nat := kNum (qU Q s) (qQ Q)
abbrev qLv (Q : kAq) (s : Nat) : Bool := decide (0 < qC Q s)
def kWt (T : kAt) : Prop := tF T ≤ 200 ∧ ∀ k, k < tF T → ∃ c, c < 256 ∧ tP T k = nI c
def kWr (r : kAr) : Prop := rN r ≤ 8 ∧ ∀ k, k < rN r → ∃ e, e ≤ 100 ∧ rH r k = nI e
def kWq (c : Nat) (Q : kAq) : Prop := qQ Q ≤ 6 ∧ qN Q ≤ 12 * qQ Q ∧ qFo Q ≤ c ∧ (∀ s, s < qN Q → kKw s (qKy Q s) ∧ qFr Q s ≤ c) ∧ ∀ q, q < qQ Q → (1 ≤ (qNd Q q).length ∧ (qNd Q q).length ≤ 12) ∧ kNl 0 (qNd Q q) ∧ ∀ k x, (qNd Q q)[k]? = some x → qSh Q q k < qN Q ∧ qKy Q (qSh Q q k) = kKy x (qSh Q q)
def kWA (A : kA) : Prop := kWl A.1 ∧ kWt A.2.1 ∧ kWq (lC A.1) A.2.2.1 ∧ kWr A.2.2.2
-- the class
def kcl (L : kAl) (h : ka_H) : Prop := ka_I h 2 6 = nI (lNn L) ∧ ka_I h 2 7 = nI (lC L) ∧ ka_I h 2 8 = lR L ∧ (∀ k, k < lNn L → ka_I h 3 k = lTb L k ∧ ka_I h 4 k = lCe L k ∧ ka_I h 5 k = lMo L k ∧ ka_I h 6 k = lEd L k ∧ ka_I h 7 k = lLa L k) ∧ ∀ e, e < lC L → ka_I h 8 e = nI (lEn L e)
def kct (T : kAt) (h : ka_H) : Prop := ka_I h 9 1 = nI (tF T) ∧ ka_I h 9 4 = tA T ∧ ∀ k, k < tF T → ka_I h 10 k = tP T k
def kcr (r : kAr) (h : ka_H) : Prop := ka_I h 1 10 = nI (rN r) ∧ ∀ k, k < rN r → ka_I h 70 k = if rG r k = true then -1 else rH r k
/-- a shelf of the class: what it is, how far it is done, for how many questions; its counts are those after st changes -/
def kcs1 (L : kAl) (Q : kAq) (sb st : Nat → Nat) (h : ka_H) (s : Nat) : Prop := kSf h sb (sb s) s (qKy Q s) (kHk (qKy Q s).2.2.2.2) (kMs (qKy Q) s) ∧ ((qKy Q s).1 ≠ 0 → ka_I h (sb s) 10 = nI (qFr Q s)) ∧ ka_I h (sb s) 11 = nI (qC Q s) ∧ ka_I h (sb s) 12 = nI (st s) - 1 ∧ st s ≤ lZ L ∧ ∀ r, r < 256 → ka_I h (sb s + 2) r = kSV (qKy Q) (lT L (st s)) s r
/-- a question of the class -/
def kcq1 (Q : kAq) (sb qb : Nat → Nat) (h : ka_H) (q : Nat) : Prop := kQc h (qb q) (qNd Q q).length ∧ ka_I h (qb q) 4 = bI (qLf Q q) ∧ (∀ s, s < qN Q → qb q + 4 ≤ sb s ∨ sb s + 5 ≤ qb q) ∧ ∀ k x, (qNd Q q)[k]? = some x → ka_P h (qb q + 1) k = sb (qSh Q q k) ∧ ka_I h (qb q + 2) k = nI x.2.2.2.2.1 ∧ ka_I h (qb q + 3) k = bI (kRp (qSh Q q) (qSh Q q k) k)
def kcq (L : kAl) (Q : kAq) (sb qb st : Nat → Nat) (h : ka_H) : Prop :=
  (ka_I h 1 8 = nI (qN Q) ∧ ka_I h 1 9 = nI (qQ Q) ∧ ka_I h 1 11 = nI (qFo Q)) ∧ (∀ r, r < 256 → ka_I h 64 r = 0) ∧ kSb (qN Q) sb ∧ (∀ s, s < 72 → ka_P h 68 s = if s < qN Q then sb s else 0) ∧ (∀ s, s < qN Q → kcs1 L Q sb st h s) ∧
  (∀ q, q < 6 → ka_P h 69 q = if q < qQ Q then qb q else 0) ∧ (∀ q, q < qQ Q → kcq1 Q sb qb h q) ∧ ∀ q q', q < q' → q' < qQ Q → qb q + 4 ≤ qb q'
def kcA (A : kA) (h : ka_H) : Prop := kcl A.1 h ∧ kct A.2.1 h ∧ kcr A.2.2.2 h ∧ ∃ sb qb st, kcq A.1 A.2.2.1 sb qb st h
-- the reference
def kml (L : kAl) (h : ka_H) : Prop := ka_I h 72 2 = nI (lNn L) ∧ ka_I h 72 1 = nI (lC L) ∧ ka_I h 72 3 = lR L ∧ ∀ k, k < lNn L → ka_I h 73 k = lTb L k ∧ ka_I h 74 k = lCe L k ∧ ka_I h 75 k = lMo L k ∧ ka_I h 76 k = lEd L k ∧ ka_I h 77 k = lLa L k
def kmt (T : kAt) (h : ka_H) : Prop := ka_I h 72 21 = nI (tF T) ∧ ka_I h 72 28 = tA T ∧ ∀ k, k < tF T → ka_I h 89 k = tP T k
def kmr (r : kAr) (h : ka_H) : Prop := ka_I h 72 44 = nI (rN r) ∧ (∀ k, k < rN r → ka_I h 99 k = rH r k ∧ ka_I h 100 k = bI (rG r k)) ∧ ∀ k, rN r ≤ k → k < 8 → ka_I h 100 k = 0
def kmq (Q : kAq) (h : ka_H) : Prop := ka_I h 72 9 = nI (qQ Q) ∧ ka_I h 72 34 = nI (qN Q) ∧ ka_I h 72 35 = nI (qFo Q) ∧ (∀ q, q < qQ Q → ka_I h 78 q = bI (qLf Q q) ∧ ka_I h 79 q = nI (qNd Q q).length ∧ ∀ k x, (qNd Q q)[k]? = some x → kMn (ka_I h) (12 * q + k) x ∧ ka_I h 84 (12 * q + k) = nI (qSh Q q k)) ∧
  ∀ s, s < qN Q → ((qKy Q s).1 ≠ 0 → ka_I h 93 s = nI (qFr Q s)) ∧ ka_I h 94 s = bI (qLv Q s) ∧ ∃ q k x, q < qQ Q ∧ (qNd Q q)[k]? = some x ∧ qSh Q q k = s ∧ ka_I h 92 s = nI (12 * q + k)
def kmA (A : kA) (h : ka_H) : Prop := kml A.1 h ∧ kmt A.2.1 h ∧ kmq A.2.2.1 h ∧ kmr A.2.2.2 h
/-- what a call of the class leaves of the reference, and of the room -/
def kFc (h h' : ka_H) : Prop := h'.1 ≤ h.1 + 64 ∧ h'.2.1 ≤ h.2.1 + 9000 ∧ ∀ a, 72 ≤ a → a ≤ 101 → ka_I h' a = ka_I h a
theorem kFc.rfl' {h : ka_H} : kFc h h := ⟨by omega, by omega, fun _ _ _ => rfl⟩
theorem kcl.st {L : kAl} {h h' : ka_H} (q : kcl L h) (e : ∀ a, 2 ≤ a → a ≤ 8 → ka_I h' a = ka_I h a) : kcl L h' := by
  unfold kcl at q ⊢
  rw [e 2 (by omega) (by omega), e 3 (by omega) (by omega), e 4 (by omega) (by omega), e 5 (by omega) (by omega), e 6 (by omega) (by omega), e 7 (by omega) (by omega), e 8 (by omega) (by omega)]
  exact q
theorem kct.st {T : kAt} {h h' : ka_H} (q : kct T h) (e : ∀ a, 9 ≤ a → a ≤ 10 → ka_I h' a = ka_I h a) : kct T h' := by
  unfold kct at q ⊢
  rw [e 9 (by omega) (by omega), e 10 (by omega) (by omega)]
  exact q
theorem kcr.st {r : kAr} {h h' : ka_H} (q : kcr r h) (e1 : ka_I h' 1 10 = ka_I h 1 10) (e : ka_I h' 70 = ka_I h 70) : kcr r h' := by
  unfold kcr at q ⊢
  rw [e1, e]
  exact q
theorem kml.st {L : kAl} {h h' : ka_H} (q : kml L h) (e : ∀ k, k = 1 ∨ k = 2 ∨ k = 3 → ka_I h' 72 k = ka_I h 72 k) (e2 : ∀ a, 73 ≤ a → a ≤ 77 → ka_I h' a = ka_I h a) : kml L h' := by
  unfold kml at q ⊢
  rw [e 1 (by omega), e 2 (by omega), e 3 (by omega), e2 73 (by omega) (by omega), e2 74 (by omega) (by omega), e2 75 (by omega) (by omega), e2 76 (by omega) (by omega), e2 77 (by omega) (by omega)]
  exact q
theorem kmt.st {T : kAt} {h h' : ka_H} (q : kmt T h) (e : ∀ k, k = 21 ∨ k = 28 → ka_I h' 72 k = ka_I h 72 k) (e2 : ka_I h' 89 = ka_I h 89) : kmt T h' := by
  unfold kmt at q ⊢
  rw [e 21 (by omega), e 28 (by omega), e2]
  exact q
theorem kmr.st {r : kAr} {h h' : ka_H} (q : kmr r h) (e : ka_I h' 72 44 = ka_I h 72 44) (e2 : ∀ a, 99 ≤ a → a ≤ 100 → ka_I h' a = ka_I h a) : kmr r h' := by
  unfold kmr at q ⊢
  rw [e, e2 99 (by omega) (by omega), e2 100 (by omega) (by omega)]
  exact q
theorem kmq.st {Q : kAq} {h h' : ka_H} (q : kmq Q h) (e : ∀ k, k = 9 ∨ k = 34 ∨ k = 35 → ka_I h' 72 k = ka_I h 72 k) (e2 : ∀ a, 78 ≤ a → a ≤ 94 → a ≠ 89 → a ≠ 90 → a ≠ 91 → ka_I h' a = ka_I h a) : kmq Q h' := by
  unfold kmq at q ⊢
  obtain ⟨q1, q2, q3, q4, q5⟩ := q
  rw [e 9 (by omega), e 34 (by omega), e 35 (by omega), e2 78 (by omega) (by omega) (by omega) (by omega) (by omega), e2 79 (by omega) (by omega) (by omega) (by omega) (by omega), e2 84 (by omega) (by omega) (by omega) (by omega) (by omega), e2 92 (by omega) (by omega) (by omega) (by omega) (by omega), e2 93 (by omega) (by omega) (by omega) (by omega) (by omega), e2 94 (by omega) (by omega) (by omega) (by omega) (by omega)]
  refine ⟨q1, q2, q3, fun q hq => ⟨(q4 q hq).1, (q4 q hq).2.1, fun k x hx => ⟨kMn_eq ((q4 q hq).2.2 k x hx).1 (fun a a1 a2 a3 => e2 a (by omega) (by omega) (by omega) (by omega) (by omega)), ((q4 q hq).2.2 k x hx).2⟩⟩, q5⟩
/-- the reference's part stands where its cells do (but for what a call leaves behind) -/
theorem kmA.st {A : kA} {h h' : ka_H} (q : kmA A h) (e : ∀ k, k = 1 ∨ k = 2 ∨ k = 3 ∨ k = 9 ∨ k = 21 ∨ k = 28 ∨ k = 34 ∨ k = 35 ∨ k = 44 → ka_I h' 72 k = ka_I h 72 k) (e2 : ∀ a, 73 ≤ a → a ≤ 100 → a ≠ 90 → a ≠ 91 → a ≠ 95 → a ≠ 96 → a ≠ 97 → a ≠ 98 → ka_I h' a = ka_I h a) : kmA A h' :=
  ⟨q.1.st (fun k hk => e k (by omega)) (fun a a1 a2 => e2 a (by omega) (by omega) (by omega) (by omega) (by omega) (by omega) (by omega) (by omega)), q.2.1.st (fun k hk => e k (by omega)) (e2 89 (by omega) (by omega) (by omega) (by omega) (by omega) (by omega) (by omega) (by omega)), q.2.2.1.st (fun k hk => e k (by omega)) (fun a a1 a2 a3 a4 a5 => e2 a (by omega) (by omega) a4 a5 (by omega) (by omega) (by omega) (by omega)), q.2.2.2.st (e 44 (by omega)) (fun a a1 a2 => e2 a (by omega) (by omega) (by omega) (by omega) (by omega) (by omega) (by omega) (by omega))⟩
theorem kmA.fc {A : kA} {h h' : ka_H} (q : kmA A h) (f : kFc h h') : kmA A h' := q.st (fun k _ => by rw [f.2.2 72 (by omega) (by omega)]) (fun a a1 a2 _ _ _ _ _ _ => f.2.2 a (by omega) (by omega))
theorem kcs1.st {L L' : kAl} {Q : kAq} {sb st : Nat → Nat} {h h' : ka_H} {s : Nat} (q : kcs1 L Q sb st h s) (hn : h.1 ≤ h'.1) (hK : ∀ a, a < h.1 → ka_K h' a = ka_K h a) (hP : ∀ a, 103 ≤ a → a < h.1 → ka_P h' a = ka_P h a) (hI : ∀ a, 103 ≤ a → a < h.1 → ka_I h' a = ka_I h a) (hZ : lZ L ≤ lZ L') (hT : ∀ m, m ≤ lZ L → lT L' m = lT L m) : kcs1 L' Q sb st h' s := by
  obtain ⟨q1, q2, q3, q4, q5, q6⟩ := q
  have hb := q1.1
  refine ⟨q1.st hn hK (hP _ (by omega) (by omega)) (fun k _ => by rw [hI _ (by omega) (by omega)]) (hI _ (by omega) (by omega)) (hI _ (by omega) (by omega)) rfl rfl, ?_⟩
  rw [hI (sb s) (by omega) (by omega), hI (sb s + 2) (by omega) (by omega), hT _ q5]
  exact ⟨q2, q3, q4, Nat.le_trans q5 hZ, q6⟩
theorem kcq1.st {Q : kAq} {sb qb : Nat → Nat} {h h' : ka_H} {q : Nat} (w : kcq1 Q sb qb h q) (hn : h.1 ≤ h'.1) (hK : ∀ a, a < h.1 → ka_K h' a = ka_K h a) (hP : ∀ a, 103 ≤ a → a < h.1 → ka_P h' a = ka_P h a) (hI : ∀ a, 103 ≤ a → a < h.1 → ka_I h' a = ka_I h a) : kcq1 Q sb qb h' q := by
  obtain ⟨⟨q1, q2, q3, q4, q5, q6, q7, q8, q9, q10, q11⟩, w2, w3, w4⟩ := w
  unfold kcq1 kQc
  rw [hK (qb q) (by omega), hK (qb q + 1) (by omega), hK (qb q + 2) (by omega), hK (qb q + 3) (by omega), hP (qb q) (by omega) (by omega), hP (qb q + 1) (by omega) (by omega), hI (qb q) (by omega) (by omega), hI (qb q + 2) (by omega) (by omega), hI (qb q + 3) (by omega) (by omega)]
  exact ⟨⟨q1, by omega, q3, q4, q5, q6, q7, q8, q9, q10, q11⟩, w2, w3, w4⟩
theorem kcq.st {L L' : kAl} {Q : kAq} {sb qb st : Nat → Nat} {h h' : ka_H} (w : kcq L Q sb qb st h) (h103 : 103 ≤ h.1) (hn : h.1 ≤ h'.1) (hK : ∀ a, a < h.1 → ka_K h' a = ka_K h a) (hP : ∀ a, a < h.1 → ka_P h' a = ka_P h a) (hI : ∀ a, 103 ≤ a → a < h.1 → ka_I h' a = ka_I h a) (h1 : ∀ k, k = 8 ∨ k = 9 ∨ k = 11 → ka_I h' 1 k = ka_I h 1 k) (h64 : ka_I h' 64 = ka_I h 64) (hZ : lZ L ≤ lZ L') (hT : ∀ m, m ≤ lZ L → lT L' m = lT L m) : kcq L' Q sb qb st h' := by
  obtain ⟨w1, w2, w3, w4, w5, w6, w7, w8⟩ := w
  unfold kcq
  rw [h1 8 (by omega), h1 9 (by omega), h1 11 (by omega), h64, hP 68 (by omega), hP 69 (by omega)]
  exact ⟨w1, w2, w3, w4, fun s hs => (w5 s hs).st hn hK (fun a _ ha => hP a ha) hI hZ hT, w6, fun q hq => (w7 q hq).st hn hK (fun a _ ha => hP a ha) hI, w8⟩
theorem kcA.st {A : kA} {h h' : ka_H} (q : kcA A h) (h103 : 103 ≤ h.1) (hn : h.1 ≤ h'.1) (hK : ∀ a, a < h.1 → ka_K h' a = ka_K h a) (hP : ∀ a, a < h.1 → ka_P h' a = ka_P h a) (hI : ∀ a, a < 72 ∨ 101 < a → a ≠ 65 → a ≠ 66 → a ≠ 67 → a ≠ 71 → a < h.1 → ka_I h' a = ka_I h a) : kcA A h' := by
  obtain ⟨q1, q2, q3, sb, qb, st, q4⟩ := q
  exact ⟨q1.st (fun a a1 a2 => hI a (by omega) (by omega) (by omega) (by omega) (by omega) (by omega)), q2.st (fun a a1 a2 => hI a (by omega) (by omega) (by omega) (by omega) (by omega) (by omega)), q3.st (by rw [hI 1 (by omega) (by omega) (by omega) (by omega) (by omega) (by omega)]) (hI 70 (by omega) (by omega) (by omega) (by omega) (by omega) (by omega)), sb, qb, st, q4.st h103 hn hK hP (fun a a1 a2 => hI a (by omega) (by omega) (by omega) (by omega) (by omega) (by omega)) (fun k _ => by rw [hI 1 (by omega) (by omega) (by omega) (by omega) (by omega) (by omega)]) (hI 64 (by omega) (by omega) (by omega) (by omega) (by omega) (by omega)) (Nat.le_refl _) (fun _ _ => rfl)⟩
theorem kcA.fm {A : kA} {h h' : ka_H} (q : kcA A h) (h103 : 103 ≤ h.1) (f : kFm h h') : kcA A h' := q.st h103 (by rw [f.1]; omega) (fun a _ => f.2.2.1 a) (fun a _ => f.2.2.2.1 a) (fun a a1 _ _ _ _ _ => f.2.2.2.2.2 a a1)
theorem kcA.new {A : kA} {h : ka_H} {kd sz sl : Nat} (q : kcA A h) (h103 : 103 ≤ h.1) : kcA A (ka_new h kd sz sl) := q.st h103 (Nat.le_succ _) (fun a ha => (kNw_o (by omega)).1) (fun a ha => (kNw_o (by omega)).2.2) (fun a _ _ _ _ _ ha => (kNw_o (by omega)).2.1)
theorem kFc.new {h : ka_H} {kd sz : Nat} (h103 : 103 ≤ h.1) (hs : sz ≤ 9000) : kFc h (ka_new h kd sz sz) := ⟨by show h.1 + 1 ≤ _; omega, by show h.2.1 + sz ≤ _; omega, fun a a1 a2 => (kNw_o (by omega)).2.1⟩
-- what a call of either side does, by the state
def kYx (D m : Nat) (as : List Value) (A A' : kA) (co ex : Nat) (v : Int32) : Prop := ∀ (g : Nat × (Nat → Int32)) (h : ka_H) (R : ka_R → ka_H → Prop), kf g h → h.1 + 64 ≤ 1000000 → kcA A h → (co ≠ 0 → R (.inr (ex, h.1)) (kx h ex)) → (co = 0 → ∀ h', kf g h' → kcA A' h' → kFc h h' → R (kp_ri v) h') → kp_T D m (.ref 1 :: as) h R
def kYc (D m : Nat) (as : List Value) (A A' : kA) (co : Nat) (v : Int32) : Prop := ∀ (g : Nat × (Nat → Int32)) (h : ka_H) (R : ka_R → ka_H → Prop), kf g h → h.1 + 64 ≤ 1000000 → kcA A h → (∀ h', kf g h' → kcA A' h' → kFc h h' → (co = 0 → ka_J h' 102 0 = v.toInt64) → R (kp_ri (nI co)) h') → kp_T D m (.ref 1 :: (as ++ [.ref 102])) h R
def kYr (D m : Nat) (as : List Value) (A A' : kA) (co : Nat) (v : Int32) : Prop := ∀ (g : Nat × (Nat → Int32)) (h : ka_H) (R : ka_R → ka_H → Prop), kf g h → kmA A h → (∀ h' w, kf g h' → kmA A' h' → kFm h h' → ka_I h' 72 0 = nI co → (co = 0 → w = v) → R (kp_ri w) h') → kp_T D m (.ref 72 :: as) h R
