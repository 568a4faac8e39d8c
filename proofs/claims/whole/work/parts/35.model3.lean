/-! ===== the reference: change, late, room, drop, close, rows (each end of a call is one premise on R) ===== -/
section M3
variable {g : Nat × (Nat → Int32)} {d : Nat} {h : ka_H} {R : ka_R → ka_H → Prop}
/-- a write of an int into one of the first cells -/
theorem kf_w (hf : kf g h) (a : Nat) {k : Nat} {v : Int32} (ha : Nat.blt a 103 = true) (hk : (Nat.blt (kt a).1 10 || Nat.beq (kt a).1 30 || Nat.beq (kt a).1 31) = true) : kf g (ka_sI h a k v) := by
  refine kf_sI hf ?_
  rw [hf.2.1 a ha]
  simp only [Bool.or_eq_true] at hk
  rcases hk with (hk | hk) | hk
  · have := Nat.lt_of_succ_le (Nat.le_of_ble_eq_true hk)
    omega
  · have := Nat.eq_of_beq_eq_true hk
    omega
  · have := Nat.eq_of_beq_eq_true hk
    omega
abbrev km_0 (h : ka_H) : ka_H := ka_sI h 72 0 0
/-- the call goes wrong with this code -/
abbrev km_t (h : ka_H) (code : Int32) : ka_H := ka_sI (ka_sI h 72 0 0) 72 0 code
abbrev kp_tab (t : Int32) : Prop := 0 ≤ t ∧ t ≤ 3
abbrev kp_ri (v : Int32) : ka_R := .inl (some (.int v))
theorem kc_change (hf : kf g h) {n : Nat} (hn : ka_I h 72 2 = nI n) (hlt : n ≤ 400) {t a b more : Int32}
    (e1 : ¬ kp_tab t → R (kp_ri 0) (km_t h 1)) (e2 : kp_tab t → ¬ (kp_row a b ∧ kp_more more) → R (kp_ri 0) (km_t h 2)) (e3 : kp_tab t → kp_row a b ∧ kp_more more → n = 400 → R (kp_ri (-1)) (km_0 h)) (e4 : kp_tab t → kp_row a b ∧ kp_more more → n < 400 → R (kp_ri (nI (n + 1))) (kp_ad (km_0 h) n t a b more 0)) :
    kp_T (d + 3) 153 [.ref 72, .int t, .int a, .int b, .int more] h R := by
  have hf0 : kf g (km_0 h) := kf_m hf
  have j35 : kp_tab t → ¬ (kp_row a b ∧ kp_more more) → kq_ex g (d + 2) 153 R 35 [.ref 72, .int t, .int a, .int b, .int more] [.ref 72] (km_0 h) := by
    intro ht hb
    refine kq_seg kp_no 10 ?_
    refine kq_ci (kc_may0 (code := 2) hf0 rfl (by decide)) (kf_m hf0) ?_
    refine And.intro (fun c => absurd rfl c) (fun _ => ?_)
    exact ⟨trivial, e2 ht hb⟩
  refine kq_in hf rfl rfl rfl (kq_seg (fun p => Nat.beq p 35) 41 ?_)
  refine kq_ci (kc_isTable (code := 1) hf0 rfl (by decide)) (kf_mh hf0) ?_
  refine And.intro (fun c => ?_) (fun c => ?_)
  · have ht : ¬ kp_tab t := kp_b0 c
    rw [show kp_mh (0 ≤ t ∧ t ≤ 3) 1 (km_0 h) = km_t h 1 from if_neg ht]
    exact ⟨trivial, e1 ht⟩
  · have ht : kp_tab t := kp_b1 c
    rw [show kp_mh (0 ≤ t ∧ t ≤ 3) 1 (km_0 h) = km_0 h from if_pos ht]
    refine kq_ci (kc_isRow hf0) hf0 ?_
    refine And.intro (fun c2 => j35 ht (fun q => kp_b0 c2 q.1)) (fun c2 => ?_)
    refine kq_ci (kc_isMore hf0) hf0 ?_
    refine And.intro (fun c3 => j35 ht (fun q => kp_b0 c3 q.2)) (fun c3 => ?_)
    have hb : kp_row a b ∧ kp_more more := ⟨kp_b1 c2, kp_b1 c3⟩
    refine kq_ci (kc_may1 (code := 2) hf0 rfl) hf0 ?_
    refine And.intro (fun _ => ?_) (fun c => absurd c (by decide))
    refine And.intro (fun c4 => ?_) (fun c4 => ?_)
    · have hne : n < 400 := by
        rcases Nat.lt_or_ge n 400 with q | q
        · exact q
        · exfalso
          refine c4 ?_
          show ka_I h 72 2 = _
          rw [hn, show n = 400 by omega]
          rfl
      refine kq_cv (kc_adds (n := n) hf0 hn hne (Or.inl rfl)) ?_ ?_
      · exact kf_w (kf_w (kf_w (kf_w (kf_w (kf_w hf0 73 rfl rfl) 74 rfl rfl) 75 rfl rfl) 76 rfl rfl) 77 rfl rfl) 72 rfl rfl
      · exact ⟨trivial, e4 ht hb hne⟩
    · have he : n = 400 := by
        have c5 : nI n = nI 400 := hn.symm.trans c4
        have := congrArg Int32.toInt c5
        rw [nI_toInt (by omega), nI_toInt (by omega)] at this
        omega
      exact ⟨trivial, e3 ht hb he⟩
end M3
