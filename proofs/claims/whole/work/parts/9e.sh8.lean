/-! ===== shelves: a new one ===== -/
/-- what a new shelf leaves as it was -/
def kNs (h h' : ka_H) (N : Nat) : Prop := h'.1 = h.1 + 5 ∧ (∀ a, a < h.1 → ka_K h' a = ka_K h a) ∧ (∀ a, a < h.1 → a ≠ 1 → ka_I h' a = ka_I h a) ∧ (∀ k, k ≠ 8 → ka_I h' 1 k = ka_I h 1 k) ∧ ka_I h' 1 8 = nI (N + 1) ∧ (∀ a, a < h.1 → a ≠ 68 → ka_P h' a = ka_P h a) ∧ (∀ k, k ≠ N → ka_P h' 68 k = ka_P h 68 k) ∧ ka_P h' 68 N = h.1 ∧ (∀ a, a < h.1 → ka_J h' a = ka_J h a) ∧ h'.2.1 ≤ h.2.1 + 742
section S8
variable {g : Nat × (Nat → Int32)} {d : Nat} {h : ka_H} {R : ka_R → ka_H → Prop} {k SC N : Nat} {x : kN} {f sb : Nat → Nat}
theorem kCn_eq {h1 : ka_H} (hc : kCn (ka_I h) (fun a => ka_P h a 0) k x SC) (hk : k < 12) (hI : ∀ a, a < 103 → ka_I h1 a = ka_I h a) (hP : ∀ a, a < 103 → ka_P h1 a = ka_P h a) : kCn (ka_I h1) (fun a => ka_P h1 a 0) k x SC := by
  unfold kCn at hc ⊢
  rw [hI (39 + 2 * k) (by omega), hI (40 + 2 * k) (by omega), hI 38 (by omega)]
  exact ⟨(congrFun (hP (39 + 2 * k) (by omega)) 0).trans hc.1, hc.2⟩
theorem kc_newShelf (hf : kf g h) (h103 : 103 ≤ h.1) (hn : h.1 + 5 ≤ 1000000) (hN : ka_I h 1 8 = nI N) (hN72 : N < 72) (hc : kCn (ka_I h) (fun a => ka_P h a 0) k x SC) (hk : k < 12) (hSC : SC ≤ 200) (hx : x.1 ≤ 13)
    {r1 r2 : Nat} (h1 : r1 = 0 ∨ (103 ≤ r1 ∧ r1 < h.1 ∧ (ka_K h r1).1 = 5)) (h2 : r2 = 0 ∨ (103 ≤ r2 ∧ r2 < h.1 ∧ (ka_K h r2).1 = 5)) (e1 : r1 = ks_r sb (kKy x f).2.2.1) (e2 : r2 = ks_r sb (kKy x f).2.2.2.1)
    (e : ∀ h', kf g h' → kNs h h' N → kSf h' sb h.1 N (kKy x f) x.2.2.2.2.2.2.2 (kTb x (ka_I h (39 + 2 * k) 1) (if r1 = 0 then 0 else ka_I h r1 7) (if r2 = 0 then 0 else ka_I h r2 7)) → ka_I h' h.1 10 = ka_I h 1 11 → ka_I h' h.1 11 = 0 → ka_I h' h.1 12 = -1 → (∀ j, ka_I h' (h.1 + 2) j = 0) → (∀ j, ka_I h' (h.1 + 3) j = 0) → R (.inl (some (.ref h.1))) h') : kp_T (d + 5) 128 [.ref 1, .ref (39 + 2 * k), .ref r1, .ref r2] h R := by
  refine kd_in hf rfl rfl rfl (kd_seg kp_no 60 ⟨show h.1 < 1000000 by omega, ?_⟩)
  generalize hAe : ka_new h 5 14 14 = hA
  have fA : kf g hA := by rw [← hAe]; exact kf_new hf (by omega)
  have nA : hA.1 = h.1 + 1 := by rw [← hAe]; rfl
  have sA : hA.2.1 = h.2.1 + 14 := by rw [← hAe]; rfl
  have oA : ∀ a, a ≠ h.1 → ka_K hA a = ka_K h a ∧ ka_I hA a = ka_I h a ∧ ka_P hA a = ka_P h a := fun a ha => by rw [← hAe]; exact kNw_o ha
  have kA : ka_K hA h.1 = (5, 14) := by rw [← hAe]; exact kNw_K
  have zA : ∀ j, ka_I hA h.1 j = 0 := fun j => by rw [← hAe]; exact congrFun (if_pos rfl) j
  have cA := kCn_eq (h1 := hA) hc hk (fun a ha => (oA a (by omega)).2.1) (fun a ha => (oA a (by omega)).2.2)
  refine ⟨kK fA (a := 1) rfl rfl, ⟨kK fA (a := 1) rfl rfl, ⟨kK fA (a := 11) rfl rfl, ?_⟩⟩⟩
  rw [show ka_I hA 1 8 = nI N from (congrFun (oA 1 (by omega)).2.1 8).trans hN]
  refine kc_signsOf (d := d) fA (by omega) (by omega) cA hk hSC (fun c hcc => ⟨kf_sF (kf_new fA (by omega)) (by rw [kNw_K]), ?_⟩)
  generalize hBe : ka_sF (ka_new hA 30 x.2.2.2.2.2.1.length x.2.2.2.2.2.1.length) hA.1 c = hB
  rw [nA]
  have fB : kf g hB := by rw [← hBe]; exact kf_sF (kf_new fA (by omega)) (by rw [kNw_K])
  have nB : hB.1 = h.1 + 2 := by rw [← hBe]; show hA.1 + 1 = _; omega
  have sB : hB.2.1 = hA.2.1 + x.2.2.2.2.2.1.length := by rw [← hBe]; rfl
  have hl200 : x.2.2.2.2.2.1.length ≤ 200 := by
    obtain ⟨-, -, -, -, -, ⟨sb9, -, -, h9, -⟩, -⟩ := hc
    omega
  have oB : ∀ a, a ≠ h.1 + 1 → ka_K hB a = ka_K hA a ∧ ka_I hB a = ka_I hA a ∧ ka_P hB a = ka_P hA a := fun a ha => by
    have ha' : a ≠ hA.1 := by omega
    rw [← hBe]
    exact ⟨if_neg ha', (if_neg ha').trans (kNw_o ha').2.1, if_neg ha'⟩
  have kB : ka_K hB (h.1 + 1) = (30, x.2.2.2.2.2.1.length) := by rw [← hBe, ← nA]; exact kNw_K (sl := 0)
  have cB : ka_I hB (h.1 + 1) = c := by rw [← hBe, ← nA]; exact if_pos rfl
  have KB : ∀ a, a < h.1 → ka_K hB a = ka_K h a := fun a ha => (oB a (by omega)).1.trans (oA a (by omega)).1
  have IB : ∀ a, a < h.1 → ka_I hB a = ka_I h a := fun a ha => (oB a (by omega)).2.1.trans (oA a (by omega)).2.1
  have PB : ∀ a, a < h.1 → ka_P hB a = ka_P h a := fun a ha => (oB a (by omega)).2.2.trans (oA a (by omega)).2.2
  have JB : ∀ a, a < h.1 → ka_J hB a = ka_J h a := fun a ha => by
    rw [← hBe]
    refine (if_neg (show ¬ a = hA.1 by omega)).trans ?_
    rw [← hAe]
    exact if_neg (show ¬ a = h.1 by omega)
  have bB : ka_K hB h.1 = (5, 14) := (oB h.1 (by omega)).1.trans kA
  have zB : ∀ j, ka_I hB h.1 j = 0 := fun j => (congrFun (oB h.1 (by omega)).2.1 j).trans (zA j)
  have cnB := kCn_eq (h1 := hB) hc hk (fun a ha => IB a (by omega)) (fun a ha => PB a (by omega))
  refine ⟨show ¬ h.1 = 0 by omega, kq_cnV (kc_sinit (b := h.1) (c := h.1 + 1) (num := nI N) fB h103 (by omega) (by omega) bB cnB hk hx ?_ ?_ (fun h' ib pb M C q m0 m1 m2 z0 z1 z2 i0 i2 i12 i7 ik p1 p3 p4 p5 p6 p8 p9 => ⟨rfl, q.1, ?_⟩))⟩
  · rcases h1 with z | z
    · exact Or.inl z
    · exact Or.inr ⟨z.1, z.2.1, by rw [KB _ z.2.1]; exact z.2.2⟩
  · rcases h2 with z | z
    · exact Or.inl z
    · exact Or.inr ⟨z.1, z.2.1, by rw [KB _ z.2.1]; exact z.2.2⟩
  have hKb : (ka_K h' h.1).1 = 5 := by rw [q.K (by omega), bB]
  refine ⟨kK q.1 (a := 1) rfl rfl, ⟨hKb, ?_⟩⟩
  rw [show ka_I h' 1 11 = ka_I h 1 11 from (congrFun (q.I (by omega) (by omega)) 11).trans (congrFun (IB 1 (by omega)) 11)]
  have q2 := q.sI (k := 10) (v := ka_I h 1 11) (by omega) (by rw [bB])
  generalize ka_sI h' h.1 10 (ka_I h 1 11) = H2 at q2
  have hI1 : ∀ j, ka_I H2 1 j = ka_I h 1 j := fun j => (congrFun (q2.I (by omega) (by omega)) j).trans (congrFun (IB 1 (by omega)) j)
  have hK1 : (ka_K H2 1).1 = 8 := kK q2.1 (a := 1) rfl rfl
  have hK68 : (ka_K H2 68).1 = 34 := kK q2.1 (a := 68) rfl rfl
  have hZ68 : (ka_K H2 68).2 = 72 := kZ q2.1 (a := 68) rfl rfl
  have hKb2 : (ka_K H2 h.1).1 = 5 := by rw [q2.K (by omega), bB]
  refine ⟨hK1, ?_⟩
  rw [show ka_I H2 1 8 = nI N from (hI1 8).trans hN]
  refine ⟨hK1, ?_⟩
  rw [show kq_p H2 1 4 = 68 from rfl]
  refine ⟨by rw [hK68]; decide, ?_⟩
  rw [hZ68]
  refine ⟨fun z => absurd (nI_lt (b := 72) hN72 (by omega)) z, fun _ => ⟨hK1, ⟨hK1, ?_⟩⟩⟩
  rw [show kq_p H2 1 4 = 68 from rfl, show ka_I H2 1 8 = nI N from (hI1 8).trans hN]
  refine ⟨⟨Or.inl ⟨hK68, hKb2⟩, by rw [hZ68]; exact nI_in (N := 72) hN72 (by omega)⟩, ⟨fun _ => rfl, ?_⟩⟩
  rw [nI_clamp (by omega)]
  have f3 : kf g (ka_sP H2 68 N h.1) := kf_sP q2.1 (by rw [hK68]; decide) (fun _ => rfl)
  have hK13 : (ka_K (ka_sP H2 68 N h.1) 1).1 = 8 := hK1
  refine ⟨hK13, ⟨hK13, ?_⟩⟩
  rw [show ka_I (ka_sP H2 68 N h.1) 1 8 = nI N from (hI1 8).trans hN, show nI N + Int32.ofInt 1 = nI (N + 1) from (nI_succ N).symm]
  have hIs : ∀ a, a ≠ 1 → ka_I (ka_sI (ka_sP H2 68 N h.1) 1 8 (nI (N + 1))) a = ka_I H2 a := fun a ha => funext fun j => ka_uN _ _ _ _ ha j
  have hPs : ∀ a, a ≠ 68 → ka_P (ka_sI (ka_sP H2 68 N h.1) 1 8 (nI (N + 1))) a = ka_P H2 a := fun a ha => funext fun j => ka_uN _ _ _ _ ha j
  have e20 : h.1 + 2 = hB.1 + 0 := by omega
  have e21 : h.1 + 3 = hB.1 + 1 := by omega
  have e22 : h.1 + 4 = hB.1 + 2 := by omega
  have hn2 : H2.1 = h.1 + 5 := by have := q2.n; omega
  have hs2 : H2.2.1 ≤ h.2.1 + 742 := by have := q2.2.1.2.1; omega
  have hib : ∀ j, j ≠ 10 → ka_I H2 h.1 j = ib j := fun j hj => by rw [q2.2.2.1]; exact if_neg hj
  have hpb : ∀ j, ka_P H2 h.1 j = pb j := fun j => by rw [q2.2.2.2.1]
  have hr7 : ∀ r, (r = 0 ∨ (103 ≤ r ∧ r < h.1 ∧ (ka_K h r).1 = 5)) → (if r = 0 then 0 else ka_I hB r 7) = (if r = 0 then 0 else ka_I h r 7) := fun r hr => by
    rcases hr with z | z
    · rw [if_pos z, if_pos z]
    · rw [if_neg (by omega), if_neg (by omega), IB r z.2.1]
  refine e _ (kf_sI f3 (by rw [hK13]; decide)) ⟨hn2, fun a ha => ?_, fun a ha h1 => ?_, fun j hj => ?_, ka_uS (ka_I H2) 1 8 (nI (N + 1)), fun a ha h68 => ?_, fun j hj => ?_, ka_uS (ka_P H2) 68 N h.1, fun a ha => ?_, hs2⟩ ⟨⟨h103, by show h.1 + 5 ≤ H2.1; omega⟩, ⟨?_, ?_, ?_, ?_, ?_⟩, ⟨?_, ?_, ?_, ?_, ?_, ?_, ?_⟩, ⟨?_, ?_, ?_⟩, fun j hj => ?_, fun h13 a c2 ha hc2 => ?_⟩ ?_ ?_ ?_ (fun j => ?_) (fun j => ?_)
  · exact (q2.K (by omega)).trans (KB a ha)
  · exact (hIs a h1).trans ((q2.I (by omega) (by omega)).trans (IB a ha))
  · exact (ka_uJ (ka_I H2) 1 8 (nI (N + 1)) 1 hj).trans (hI1 j)
  · exact (hPs a h68).trans ((q2.Pp (by omega) (by omega)).trans (PB a ha))
  · exact (ka_uJ (ka_P H2) 68 N h.1 68 hj).trans ((congrFun (q2.Pp (a := 68) (by omega) (by omega)) j).trans (congrFun (PB 68 (by omega)) j))
  · exact ((q2.2.1.2.2.2 a (by omega) (by omega)).2.2).trans (JB a ha)
  · exact (q2.K (by omega)).trans bB
  · exact (q2.K (by omega)).trans kB
  · rw [e20]; exact (q2.2.2.2.2 0 (by omega)).1.trans m0
  · rw [e21]; exact (q2.2.2.2.2 1 (by omega)).1.trans m1
  · rw [e22]; exact (q2.2.2.2.2 2 (by omega)).1.trans m2
  · exact (congrFun (hPs h.1 (by omega)) 1).trans ((hpb 1).trans p1)
  · exact (congrFun (hPs h.1 (by omega)) 3).trans ((hpb 3).trans p3)
  · exact (congrFun (hPs h.1 (by omega)) 4).trans ((hpb 4).trans (p4.trans e22.symm))
  · exact (congrFun (hPs h.1 (by omega)) 5).trans ((hpb 5).trans (p5.trans e1))
  · exact (congrFun (hPs h.1 (by omega)) 6).trans ((hpb 6).trans (p6.trans e2))
  · exact (congrFun (hPs h.1 (by omega)) 8).trans ((hpb 8).trans (p8.trans e20.symm))
  · exact (congrFun (hPs h.1 (by omega)) 9).trans ((hpb 9).trans (p9.trans e21.symm))
  · exact (congrFun (hIs h.1 (by omega)) 0).trans ((hib 0 (by decide)).trans i0)
  · refine (congrFun (hIs h.1 (by omega)) 2).trans ((hib 2 (by decide)).trans (i2.trans ((congrFun (IB _ (by omega)) 1).trans (hc.2.1.trans ?_))))
    show _ = (if x.1 = 0 then nI (if x.1 = 0 then x.2.1 else 0) else -1)
    by_cases z : x.1 = 0
    · simp only [if_pos z]
    · simp only [if_neg z]
  · refine (congrFun (hIs h.1 (by omega)) 7).trans ((hib 7 (by decide)).trans (i7.trans ?_))
    rw [hr7 r1 h1, hr7 r2 h2, IB (39 + 2 * k) (by omega)]
  · exact (congrFun (hIs (h.1 + 1) (by omega)) j).trans ((congrFun (q2.I (a := h.1 + 1) (by omega) (by omega)) j).trans ((congrFun cB j).trans (hcc j hj)))
  · rw [hIs (h.1 + 4) (by omega), e22, (q2.2.2.2.2 2 (by omega)).2, z2, IB (40 + 2 * k) (by omega)]
    exact hc.2.2.2.2.2.2 h13 a c2 ha hc2
  · refine (congrFun (hIs h.1 (by omega)) 10).trans ?_
    rw [q2.2.2.1]
    exact if_pos rfl
  · exact (congrFun (hIs h.1 (by omega)) 11).trans ((hib 11 (by decide)).trans ((ik 11 (Or.inr (Or.inl rfl))).trans (zB 11)))
  · exact (congrFun (hIs h.1 (by omega)) 12).trans ((hib 12 (by decide)).trans i12)
  · rw [hIs (h.1 + 2) (by omega), e20, (q2.2.2.2.2 0 (by omega)).2]
    exact z0 j
  · rw [hIs (h.1 + 3) (by omega), e21, (q2.2.2.2.2 1 (by omega)).2]
    exact z1 j
end S8
