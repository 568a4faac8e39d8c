/-! ===== shelves: the class keeps an operator's signs ===== -/
theorem kNw_K {h : ka_H} {kd sz sl : Nat} : ka_K (ka_new h kd sz sl) h.1 = (kd, sz) := if_pos rfl
section S5
variable {g : Nat × (Nat → Int32)} {d : Nat} {h : ka_H} {R : ka_R → ka_H → Prop} {k SC sb L : Nat} {x : kN}
theorem kc_checkLength (hf : kf g h) {a b : Nat} (hab : a ≤ b) (hb : b < 2 ^ 31) (e : R (.inl none) h) : kp_T (d + 1) 281 [.int (nI a), .int (nI b)] h R :=
  kd_in hf rfl rfl rfl (kd_seg kp_no 10 ⟨fun _ => e, fun c => absurd c (nI_nlt hab hb)⟩)
theorem kc_copyInt (hf : kf g h) (hn : h.1 < 1000000) (h103 : 103 ≤ h.1) (hL : sb + L ≤ 200) (e : ∀ c : Nat → Int32, (∀ j, j < L → c j = ka_I h 38 (sb + j)) → R (.inl (some (.ref h.1))) (ka_sF (ka_new h 30 L L) h.1 c)) : kp_T (d + 2) 280 [.ref 38, .int (nI sb), .int (nI (sb + L))] h R := by
  refine kd_in hf rfl rfl rfl (kd_seg kp_no 40 ?_)
  refine kc_checkLength hf (by omega) (by omega) ⟨hf, ?_⟩
  have hl : nI (sb + L) - nI sb = nI L := by rw [nI_sub (by omega)]; congr 1; omega
  refine ⟨?_, ?_⟩
  · rw [hl]
    exact ⟨nI_n0 (by omega), by rw [nI_clamp (by omega)]; omega, hn⟩
  rw [hl, nI_clamp (by omega)]
  have hf' : kf g (ka_new h (ka_at .int) L L) := kf_new hf hn
  refine ⟨by rw [kK hf' (a := 38) rfl rfl]; decide, ?_⟩
  rw [show (ka_K (ka_new h (ka_at .int) L L) 38).2 = 200 from kZ hf' (a := 38) rfl rfl]
  have hs : Int32.ofNat 200 - nI sb = nI (200 - sb) := nI_sub (a := 200) (by omega)
  refine kq_ci (kc_min hf') hf' ?_
  rw [hs]
  rw [show (if nI L < nI (200 - sb) then nI L else nI (200 - sb)) = nI L by
    by_cases c : nI L < nI (200 - sb)
    · rw [if_pos c]
    · rw [if_neg c]
      have : ¬ L < 200 - sb := fun z => c (nI_lt z (by omega))
      congr 1
      omega]
  refine ⟨kK hf' (a := 38) rfl rfl, ⟨by rw [show ka_K (ka_new h (ka_at .int) L L) (ka_n h) = (30, L) from kNw_K], ⟨⟨by rw [nI_toInt (by omega)]; omega, by decide, by rw [nI_toInt (by omega)]; omega, ?_, ?_⟩, ?_⟩⟩⟩
  · rw [show kd_z (ka_new h (ka_at .int) L L) 38 = 200 from kZ hf' (a := 38) rfl rfl, nI_toInt (by omega), nI_toInt (by omega)]
    omega
  · rw [show kd_z (ka_new h (ka_at .int) L L) (ka_n h) = L from by unfold kd_z; rw [show ka_K (ka_new h (ka_at .int) L L) (ka_n h) = (30, L) from kNw_K], nI_toInt (by omega)]
    show (0 : Int) + _ ≤ _
    omega
  · rw [nI_clamp (by omega), nI_clamp (by omega)]
    refine e _ (fun j hj => ?_)
    show (if 0 ≤ j ∧ j < 0 + L then (ka_I (ka_new h (ka_at .int) L L) 38) (sb + (j - 0)) else _) = _
    rw [if_pos (by omega), Nat.sub_zero]
    show (if 38 = h.1 then _ else ka_I h 38) (sb + j) = _
    rw [if_neg (by omega)]
theorem kc_copy (hf : kf g h) (hn : h.1 < 1000000) (h103 : 103 ≤ h.1) (hL : sb + L ≤ 200) (e : ∀ c : Nat → Int32, (∀ j, j < L → c j = ka_I h 38 (sb + j)) → R (.inl (some (.ref h.1))) (ka_sF (ka_new h 30 L L) h.1 c)) : kp_T (d + 3) 279 [.ref 38, .int (nI sb), .int (nI (sb + L))] h R := by
  have h38 : kr h 38 200 := ⟨kK hf (a := 38) rfl rfl, kZ hf (a := 38) rfl rfl⟩
  have hfn : ∀ c, kf g (ka_sF (ka_new h 30 L L) h.1 c) := fun c => kf_sF (kf_new hf hn) (by rw [kNw_K])
  have j10 : kd_ex g (d + 2) 279 R 10 [.ref 38, .int (nI sb), .int (nI (sb + L))] [] h := by
    refine kd_seg kp_no 10 ?_
    exact kc_copyInt hf hn h103 hL (fun c hc => ⟨hfn c, e c hc⟩)
  refine kd_in hf rfl rfl rfl (kd_seg (fun p => Nat.beq p 10) 20 ⟨fun _ => j10, fun c => ⟨by rw [h38.1]; decide, ?_⟩⟩)
  rw [h38.2]
  refine ⟨fun c2 => ⟨h38.1, ⟨⟨by unfold kd_z; rw [h38.2]; decide, hn⟩, ?_⟩⟩, fun _ => j10⟩
  have hs0 : sb = 0 := (nI_eq (b := 0) (by omega) (by omega)).mp c
  have hl2 : sb + L = 200 := (nI_eq (b := 200) (by omega) (by omega)).mp c2
  have hL2 : L = 200 := by omega
  subst hL2
  rw [show kd_z h 38 = 200 from h38.2]
  refine ⟨by rw [show ka_K (ka_sF (ka_new h 30 200 200) (ka_n h) (ka_I h 38)) (ka_n h) = (30, 200) from kNw_K (sl := 200)], ?_⟩
  exact e _ (fun j hj => by rw [hs0, Nat.zero_add])
theorem kc_signsOf (hf : kf g h) (hn : h.1 < 1000000) (h103 : 103 ≤ h.1) (hc : kCn (ka_I h) (fun a => ka_P h a 0) k x SC) (hk : k < 12) (hSC : SC ≤ 200) (e : ∀ c : Nat → Int32, (∀ j, j < x.2.2.2.2.2.1.length → c j = nI (x.2.2.2.2.2.1.getD j 0)) → R (.inl (some (.ref h.1))) (ka_sF (ka_new h 30 x.2.2.2.2.2.1.length x.2.2.2.2.2.1.length) h.1 c)) : kp_T (d + 4) 17 [.ref 11, .ref (39 + 2 * k)] h R := by
  obtain ⟨-, -, -, -, -, ⟨sb, s5, s6, s7, s8⟩, -⟩ := hc
  have hKe : (ka_K h (39 + 2 * k)).1 = 3 := (kE hf hk).2.1
  refine kd_in hf rfl rfl rfl (kd_seg kp_no 20 ⟨kK hf rfl rfl, ⟨kK hf (a := 13) rfl rfl, ⟨hKe, ⟨hKe, ?_⟩⟩⟩⟩)
  rw [s5, s6]
  exact kc_copy hf hn h103 (by omega) (fun c hc => ⟨kf_sF (kf_new hf hn) (by rw [kNw_K]), e c (fun j hj => (hc j hj).trans (s8 j hj))⟩)
end S5
