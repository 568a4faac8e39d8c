/-! ===== the class: room, close, ends of editions ===== -/
section C3
variable {g : Nat × (Nat → Int32)} {d : Nat} {h : ka_H} {R : ka_R → ka_H → Prop}
theorem kc_xroom (hf : kf g h) (hb : h.1 < 1000000) {v : Int32} (e1 : ¬ (0 ≤ v ∧ v ≤ 10) → R (.inr (0, h.1)) (kx h 0)) (e2 : 0 ≤ v ∧ v ≤ 10 → R (kp_ri (ka_I h 2 8)) (ka_sI h 2 8 v)) : kp_T (d + 1) 82 [.ref 1, .int v] h R := by
  refine kq_in hf rfl rfl rfl (kq_seg kp_no 24 ?_)
  refine And.intro (fun c => ?_) (fun c => ?_)
  · exact ⟨hb, e1 (fun q => absurd c (Int32.not_lt.mpr q.1))⟩
  · refine And.intro (fun c2 => ?_) (fun c2 => ?_)
    · exact ⟨trivial, e2 ⟨Int32.not_lt.mp c, Int32.not_lt.mp c2⟩⟩
    · exact ⟨hb, e1 (fun q => absurd c2 (Int32.not_lt.mpr q.2))⟩
/-- the class's ledger after an edition is closed -/
def kl_cl (h : ka_H) (c : Nat) : ka_H := ka_sI (ka_sI h 8 c (ka_I h 2 6)) 2 7 (nI (c + 1))
theorem kf_lcl (hf : kf g h) {c : Nat} : kf g (kl_cl h c) := kf_w (kf_w hf 8 rfl rfl) 2 rfl rfl
theorem kc_closeOpen (hf : kf g h) {c : Nat} (hc : ka_I h 2 7 = nI c) (hlt : c ≤ 100) (e1 : c = 100 → R (kp_ri 0) h) (e2 : c < 100 → R (kp_ri 1) (kl_cl h c)) : kp_T (d + 1) 27 [.ref 2] h R := by
  refine kq_in hf rfl rfl rfl (kq_seg kp_no 24 ?_)
  refine And.intro (fun q => ?_) (fun q => ?_)
  · have hl : c < 100 := by
      rcases Nat.lt_or_ge c 100 with z | z
      · exact z
      · rw [hc] at q
        exact absurd q (nI_nlt (b := 100) (by omega) (by omega))
    refine And.intro (by rw [hc]; exact nI_in (N := 100) hl (by omega)) ?_
    have := e2 hl
    unfold kl_cl at this
    rw [nI_succ, ← hc, show c = (ka_I h 2 7).toNatClampNeg by rw [hc, nI_clamp (by omega)]] at this
    exact ⟨Or.inr rfl, this⟩
  · have hl : c = 100 := by
      rcases Nat.lt_or_ge c 100 with z | z
      · rw [hc] at q
        exact absurd (nI_lt (b := 100) z (by omega)) q
      · omega
    exact ⟨Or.inl rfl, e1 hl⟩
theorem kc_xclose (hf : kf g h) (hb : h.1 < 1000000) {c : Nat} (hc : ka_I h 2 7 = nI c) (hlt : c ≤ 100) (e1 : c = 100 → R (.inr (3, h.1)) (kx h 3)) (e2 : c < 100 → R (kp_ri (nI (c + 1))) (kl_cl h c)) : kp_T (d + 2) 84 [.ref 1] h R := by
  refine kq_in hf rfl rfl rfl (kq_seg kp_no 14 ?_)
  refine kc_closeOpen hf hc hlt (fun q => ⟨hf, ?_⟩) (fun q => ⟨kf_lcl hf, ?_⟩)
  · refine And.intro (fun z => absurd rfl z) (fun _ => ?_)
    exact ⟨hb, e1 q⟩
  · refine And.intro (fun _ => ?_) (fun z => absurd z (by decide))
    exact ⟨trivial, e2 q⟩
/-- how many changes there are up to an edition -/
def kl_end (h : ka_H) (n c : Nat) (ed : Int32) : Int32 := if ed < 0 then 0 else if ed < nI c then ka_I h 8 ed.toNatClampNeg else nI n
theorem kc_endOf (hf : kf g h) {n c : Nat} (hn : ka_I h 2 6 = nI n) (hc : ka_I h 2 7 = nI c) (hlt : c ≤ 100) {ed : Int32} : kp_T (d + 1) 29 [.ref 2, .int ed] h (kp_is (.int (kl_end h n c ed)) h) := by
  refine kq_in hf rfl rfl rfl (kq_seg kp_no 22 ?_)
  unfold kl_end
  refine And.intro (fun q => ?_) (fun q => ?_)
  · rw [if_neg q]
    refine And.intro (fun q2 => ?_) (fun q2 => ?_)
    · rw [hc] at q2
      rw [if_neg q2, ← hn]
      exact ⟨trivial, rfl, rfl⟩
    · rw [hc] at q2
      rw [if_pos q2]
      have hlt2 : ed < nI 100 := by
        rw [Int32.lt_iff_toInt_lt] at q2 ⊢
        rw [nI_toInt (by omega)] at q2 ⊢
        omega
      refine And.intro (fun q3 => absurd hlt2 q3) (fun _ => ?_)
      refine And.intro ?_ ⟨trivial, rfl, rfl⟩
      rintro (z | z)
      · exact q z
      · rw [Int32.lt_iff_toInt_lt, nI_toInt (by omega)] at hlt2
        have z : 100 ≤ ed.toInt.toNat := z
        omega
  · rw [if_pos q]
    exact ⟨trivial, rfl, rfl⟩
end C3
