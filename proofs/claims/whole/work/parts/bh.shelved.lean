/-! ===== the class shelves a question's nodes ===== -/
/-- the class while it shelves: h0 ahead of it, N shelves of keys ky, the nodes' shelves sh, the first i nodes are put -/
def kCG (g : Nat × (Nat → Int32)) (h0 : ka_H) (Q : kAq) (sb : Nat → Nat) (nds : List kN) (i N : Nat) (ky : Nat → kKey) (sh sb' : Nat → Nat) (h : ka_H) : Prop :=
  (kf g h ∧ h.1 = h0.1 + 4 + 5 * (N - qN Q) ∧ h.2.1 ≤ h0.2.1 + 41 + 742 * (N - qN Q) ∧ qN Q ≤ N) ∧
  ((∀ a, a < h0.1 → ka_K h a = ka_K h0 a) ∧ (∀ a, a < h0.1 → a ≠ 1 → (∀ s, s < qN Q → a ≠ sb s) → ka_I h a = ka_I h0 a) ∧ (∀ k, k ≠ 8 → ka_I h 1 k = ka_I h0 1 k) ∧ (∀ s k, s < qN Q → k ≠ 11 → ka_I h (sb s) k = ka_I h0 (sb s) k) ∧ ∀ a, a < h0.1 → a ≠ 68 → ka_P h a = ka_P h0 a) ∧
  (ka_I h 1 8 = nI N ∧ kSb N sb' ∧ (∀ s, s < qN Q → sb' s = sb s) ∧ (∀ s, qN Q ≤ s → s < N → h0.1 + 4 ≤ sb' s ∧ sb' s + 5 ≤ h.1) ∧ ∀ s, s < 72 → ka_P h 68 s = if s < N then sb' s else 0) ∧
  (∀ s, s < N → kSf h sb' (sb' s) s (ky s) (kHk (ky s).2.2.2.2) (kMs ky s) ∧ ka_I h (sb' s) 11 = nI (qC Q s + (if kRp sh s i = true then 1 else 0))) ∧
  (∀ s, qN Q ≤ s → s < N → ka_I h (sb' s) 10 = ka_I h0 1 11 ∧ ka_I h (sb' s) 12 = -1 ∧ ∀ r, ka_I h (sb' s + 2) r = 0) ∧
  (kQc h h0.1 nds.length ∧ ka_I h h0.1 4 = 0 ∧ (∀ j x, j < i → nds[j]? = some x → ka_P h (h0.1 + 1) j = sb' (sh j) ∧ ka_I h (h0.1 + 2) j = nI x.2.2.2.2.1 ∧ ka_I h (h0.1 + 3) j = bI (kRp sh (sh j) j)) ∧ ∀ j, i ≤ j → ka_I h (h0.1 + 3) j = 0)
theorem kRp_cg {f f' : Nat → Nat} {s : Nat} : ∀ i, (∀ j, j < i → f j = f' j) → kRp f s i = kRp f' s i
  | 0, _ => rfl
  | i + 1, h => by
    show (kRp f s i || _) = (kRp f' s i || _)
    rw [kRp_cg i (fun j hj => h j (by omega)), h i (by omega)]
theorem kRp_inj {f sb : Nat → Nat} {s : Nat} : ∀ i, (∀ j, j < i → (sb (f j) = sb s ↔ f j = s)) → kRp (fun j => sb (f j)) (sb s) i = kRp f s i
  | 0, _ => rfl
  | i + 1, h => by
    show (kRp _ _ i || _) = (kRp f s i || _)
    rw [kRp_inj i (fun j hj => h j (by omega)), decide_eq_decide.mpr (h i (by omega))]
theorem kSf.hh {h : ka_H} {sb : Nat → Nat} {b num : Nat} {ky : kKey} {H H' : Nat → Nat → Bool} {tb tb' : Int32} (q : kSf h sb b num ky H tb) (e : ky.1 = 13 → H = H') (e2 : tb = tb') : kSf h sb b num ky H' tb' := by
  obtain ⟨a1, a2, a3, a4, a5, a6⟩ := q
  rw [e2] at a4
  exact ⟨a1, a2, a3, a4, a5, fun z => by rw [← e z]; exact a6 z⟩
section CG
variable {g : Nat × (Nat → Int32)} {h0 h h' : ka_H} {Q : kAq} {sb sh sb' : Nat → Nat} {nds : List kN} {i N c : Nat} {ky : Nat → kKey} {x : kN}
/-- other keys and shelves where none are yet -/
theorem kCG.cg {ky' : Nat → kKey} (q : kCG g h0 Q sb nds i N ky sh sb' h) (e : ∀ s, s < N → ky' s = ky s) : kCG g h0 Q sb nds i N ky' sh sb' h := by
  obtain ⟨q1, q2, q3, q4, q5, q6⟩ := q
  refine ⟨q1, q2, q3, fun s hs => ?_, q5, q6⟩
  rw [e s hs, kMs_ky (ky' := ky) (s := s) (fun s' hs' => e s' (by omega))]
  exact q4 s hs
/-- a new shelf -/
theorem kCG.new (q : kCG g h0 Q sb nds i N ky sh sb' h) (wq : kWq c Q) (hsh : ∀ j, j < i → sh j < N) (hold : ∀ s, s < qN Q → 103 ≤ sb s ∧ sb s + 5 ≤ h0.1) (h103 : 103 ≤ h0.1) (hcap : h.1 < 1000000) (hx : kNf 0 i x) (hw : kKw N (kKy x sh)) (hkw : ∀ s, s < N → kKw s (ky s)) (hH : x.1 = 13 → ∀ H0, kTk 2 H0 x.2.2.2.2.2.1 x.2.2.2.2.2.2.2) (hf' : kf g h') (ns : kNs h h' N) {tab : Int32} (htab : tab = if x.1 = 0 then nI x.2.1 else -1)
    (sf : kSf h' sb' h.1 N (kKy x sh) x.2.2.2.2.2.2.2 (kTb x tab (if ks_r sb' (kKy x sh).2.2.1 = 0 then 0 else ka_I h (ks_r sb' (kKy x sh).2.2.1) 7) (if ks_r sb' (kKy x sh).2.2.2.1 = 0 then 0 else ka_I h (ks_r sb' (kKy x sh).2.2.2.1) 7))) (i10 : ka_I h' h.1 10 = ka_I h 1 11) (i11 : ka_I h' h.1 11 = 0) (i12 : ka_I h' h.1 12 = -1) (ic : ∀ j, ka_I h' (h.1 + 2) j = 0) :
    kCG g h0 Q sb nds i (N + 1) (fun s => if s = N then kKy x sh else ky s) sh (fun s => if s = N then h.1 else sb' s) h' := by
  obtain ⟨⟨a1, a2, a3, a4⟩, ⟨b1, b2, b3, b4, b5⟩, ⟨c1, c2, c3, c4, c5⟩, d1, e1, ⟨f1, f2, f3, f4⟩⟩ := q
  have ns' := ns
  obtain ⟨n1, n2, n3, n4, n5, n6, n7, n8, n9, n10⟩ := ns'
  have sbl : ∀ s, s < N → 103 ≤ sb' s ∧ sb' s + 5 ≤ h.1 := fun s hs => (d1 s hs).1.1
  have hkN : ∀ s, s < N → (if s = N then kKy x sh else ky s) = ky s := fun s hs => if_neg (by omega)
  have hsN : ∀ s, s < N → (if s = N then h.1 else sb' s) = sb' s := fun s hs => if_neg (by omega)
  have hMs : ∀ s, s < N → kMs (fun s => if s = N then kKy x sh else ky s) s = kMs ky s := fun s hs => kMs_ky (fun s' hs' => if_neg (by omega))
  have hr : ∀ s, s < N → ∀ v, v ≤ s → ks_r (fun s => if s = N then h.1 else sb' s) v = ks_r sb' v := fun s hs v hv => by
    unfold ks_r
    by_cases z : v = 0
    · rw [if_pos z, if_pos z]
    · rw [if_neg z, if_neg z]; exact if_neg (by omega)
  have hrN : ∀ v, v ≤ N → ks_r (fun s => if s = N then h.1 else sb' s) v = ks_r sb' v := fun v hv => by
    unfold ks_r
    by_cases z : v = 0
    · rw [if_pos z, if_pos z]
    · rw [if_neg z, if_neg z]; exact if_neg (by omega)
  refine ⟨⟨hf', by omega, by omega, by omega⟩, ⟨fun a ha => (n2 a (by omega)).trans (b1 a ha), fun a ha h1 hs => (n3 a (by omega) h1).trans (b2 a ha h1 hs), fun k hk => (n4 k hk).trans (b3 k hk), fun s k hs hk => ?_, fun a ha h68 => (n6 a (by omega) h68).trans (b5 a ha h68)⟩, ⟨n5, ⟨fun s hs => ?_, fun s s' h1 h2 => ?_⟩, fun s hs => ?_, fun s h1 h2 => ?_, fun s hs => ?_⟩, fun s hs => ?_, fun s h1 h2 => ?_, ⟨f1.ns ns, ?_, fun j y hj hy => ?_, fun j hj => ?_⟩⟩
  · have := hold s hs
    rw [n3 _ (by omega) (by omega)]
    exact b4 s k hs hk
  · show 103 ≤ (if s = N then h.1 else sb' s) ∧ (if s = N then h.1 else sb' s) < 1000000
    by_cases z : s = N
    · rw [if_pos z]; omega
    · rw [if_neg z]; exact c2.1 s (by omega)
  · show (if s = N then h.1 else sb' s) + 5 ≤ (if s' = N then h.1 else sb' s')
    rw [if_neg (by omega)]
    by_cases z : s' = N
    · rw [if_pos z]; exact (sbl s (by omega)).2
    · rw [if_neg z]; exact c2.2 s s' h1 (by omega)
  · show (if s = N then h.1 else sb' s) = _
    rw [if_neg (by omega)]; exact c3 s hs
  · show h0.1 + 4 ≤ (if s = N then h.1 else sb' s) ∧ (if s = N then h.1 else sb' s) + 5 ≤ h'.1
    by_cases z : s = N
    · rw [if_pos z]; omega
    · rw [if_neg z]; have := c4 s h1 (by omega); omega
  · show ka_P h' 68 s = if s < N + 1 then (if s = N then h.1 else sb' s) else 0
    by_cases z : s = N
    · rw [z, n8, if_pos (by omega), if_pos rfl]
    · rw [n7 s z, c5 s hs, if_neg z]
      by_cases z2 : s < N
      · rw [if_pos z2, if_pos (by omega)]
      · rw [if_neg z2, if_neg (by omega)]
  · show kSf h' (fun s => if s = N then h.1 else sb' s) (if s = N then h.1 else sb' s) s (if s = N then kKy x sh else ky s) (kHk (if s = N then kKy x sh else ky s).2.2.2.2) (kMs (fun s => if s = N then kKy x sh else ky s) s) ∧ ka_I h' (if s = N then h.1 else sb' s) 11 = _
    by_cases z : s = N
    · subst z
      simp only [if_pos]
      refine ⟨?_, ?_⟩
      · have e5 := hrN (kKy x sh).2.2.1 hw.1.2.2.1
        have e6 := hrN (kKy x sh).2.2.2.1 hw.1.2.2.2.1
        have sf2 : kSf h' (fun s' => if s' = s then h.1 else sb' s') h.1 s (kKy x sh) x.2.2.2.2.2.2.2 _ := sf.st (Nat.le_refl _) (fun _ _ => rfl) rfl (fun _ _ => rfl) rfl rfl e5 e6
        refine sf2.hh (fun z => (kHk_eq (hH z)).symm) ?_
        rw [kMs_1 (ky := fun s' => if s' = s then kKy x sh else ky s') (s := s) (by show kKw s (if s = s then kKy x sh else ky s); rw [if_pos rfl]; exact hw)]
        simp only [if_pos]
        unfold kTb
        have t1 : (if x.1 = 0 then (1 : Int32) <<< (tab &&& 31) else 0) = (if (kKy x sh).1 = 0 then (1 : Int32) <<< (nI (kKy x sh).2.1 &&& 31) else 0) := by
          show _ = (if x.1 = 0 then (1 : Int32) <<< (nI (if x.1 = 0 then x.2.1 else 0) &&& 31) else 0)
          by_cases z : x.1 = 0
          · rw [if_pos z, if_pos z, htab, if_pos z, if_pos z]
          · rw [if_neg z, if_neg z]
        have op : ∀ v, v ≤ s → (if ks_r sb' v = 0 then (0 : Int32) else ka_I h (ks_r sb' v) 7) = if v = 0 then 0 else kMs (fun s' => if s' = s then kKy x sh else ky s') (v - 1) := fun v hv => by
          unfold ks_r
          by_cases z : v = 0
          · rw [if_pos z, if_pos rfl, if_pos z]
          · rw [if_neg z, if_neg (by have := sbl (v - 1) (by omega); omega), if_neg z, hMs (v - 1) (by omega)]
            exact (d1 (v - 1) (by omega)).1.2.2.2.1.2.2
        rw [t1, op _ hw.1.2.2.1, op _ hw.1.2.2.2.1]
      · have hno : ¬ kRp sh s i = true := fun z => by
          obtain ⟨j, j1, j2⟩ := (kRp_iff i).mp z
          have := hsh j j1
          omega
        rw [i11, qC_ge wq a4, if_neg hno]
        rfl
    · have hs' : s < N := by
        have hs2 : s < N + 1 := hs
        omega
      rw [hsN s hs', hkN s hs', hMs s hs', n3 _ (by have := sbl s hs'; omega) (by have := sbl s hs'; omega)]
      refine ⟨(d1 s hs').1.ns ns (hr s hs' _ (hkw s hs').1.2.2.1) (hr s hs' _ (hkw s hs').1.2.2.2.1), (d1 s hs').2⟩
  · show ka_I h' (if s = N then h.1 else sb' s) 10 = _ ∧ ka_I h' (if s = N then h.1 else sb' s) 12 = -1 ∧ ∀ r, ka_I h' ((if s = N then h.1 else sb' s) + 2) r = 0
    by_cases z : s = N
    · rw [if_pos z]
      exact ⟨i10.trans (b3 11 (by decide)), i12, ic⟩
    · have hs' : s < N := by omega
      have := sbl s hs'
      rw [if_neg z, n3 _ (by omega) (by omega), n3 _ (by omega) (by omega)]
      exact e1 s h1 hs'
  · rw [n3 _ (by have := f1.2.1; omega) (by omega)]; exact f2
  · have hb := f1.2.1
    rw [n6 _ (by omega) (by omega), n3 _ (by omega) (by omega), n3 _ (by omega) (by omega)]
    exact ⟨(f3 j y hj hy).1.trans (hsN _ (hsh j hj)).symm, (f3 j y hj hy).2⟩
  · rw [n3 _ (by have := f1.2.1; omega) (by omega)]; exact f4 j hj
end CG
