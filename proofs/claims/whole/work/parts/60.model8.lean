/-! ===== the reference: workNode, its simple operators ===== -/
section M8
variable {g : Nat × (Nat → Int32)} {d : Nat} {h : ka_H} {R : ka_R → ka_H → Prop} {f1 f2 t : Nat} {x1 x3 x5 z6 z7 z8 : Value}
theorem kn_rd {F : Nat → Int32} {f t k r : Nat} (hf : f + 256 ≤ t) (hr : r < 256) {V : Nat → Int32} (e : F = kh_b (ka_I h 96) t V k) : ka_I (ka_sF h 96 F) 96 (f + r) = ka_I h 96 (f + r) := by
  rw [ka_I_F, e, kh_b_F _ _ _ (by omega)]
theorem kn_in {t r : Nat} (hT : t + 256 ≤ 3072) (hr : r < 256) : vp_in (nI t + nI r) 3072 := by rw [nI_add]; exact nI_in (N := 3072) (by omega) (by omega)
theorem kn_cl {t r : Nat} (hT : t + 256 ≤ 3072) (hr : r < 256) : (nI t + nI r).toNatClampNeg = t + r := by rw [nI_add, nI_clamp (by omega)]
theorem kn_flip (hT : t + 256 ≤ 3072) (h1 : f1 + 256 ≤ t) (e : R (.inl none) (ka_sF h 96 (kh_b (ka_I h 96) t (fun r => ka_I h 96 (f1 + (16 * (r % 16) + r / 16))) 256))) : kq_ex g d 202 R 260 [.ref 72, x1, .int (nI t), x3, .int (nI f1), x5, z6, z7, z8] [] h := by
  refine kq_seg (fun p => Nat.beq p 263) 4 ?_
  have hd := kq_for (P := fun k => kq_ex g d 202 R 263 [.ref 72, x1, .int (nI t), x3, .int (nI f1), x5, .int (nI k), z7, z8] [] (ka_sF h 96 (kh_b (ka_I h 96) t (fun r => ka_I h 96 (f1 + (16 * (r % 16) + r / 16))) k))) 256 ?_ (fun k hk ih => ?_)
  · rw [kh_b_0, ka_sF_eta] at hd
    exact hd
  · exact kq_seg (fun p => Nat.beq p 263) 20 ⟨fun _ => e, fun c => absurd c (nI_nlt (b := 256) (by omega) (by omega))⟩
  · rw [nI_succ] at ih
    have ei : nI f1 + (nI k - nI k / Int32.ofInt 16 * Int32.ofInt 16) * Int32.ofInt 16 + nI k / Int32.ofInt 16 = nI (f1 + (16 * (k % 16) + k / 16)) := by
      rw [nI_r16 (by omega), nI_16 (by omega), nI_m16, nI_add, nI_add, Nat.add_assoc]
    refine kq_seg (fun p => Nat.beq p 263) 40 ⟨fun c => absurd (nI_lt (b := 256) hk (by omega)) c, fun _ => ⟨by decide, by decide, ⟨by rw [ei]; exact nI_in (N := 3072) (by omega) (by omega), ⟨kn_in hT hk, ?_⟩⟩⟩⟩
    rw [ei, kn_cl hT hk, nI_clamp (by omega), show ka_I (ka_sF h 96 (kh_b (ka_I h 96) t (fun r => ka_I h 96 (f1 + (16 * (r % 16) + r / 16))) k)) (kq_p (ka_sF h 96 (kh_b (ka_I h 96) t (fun r => ka_I h 96 (f1 + (16 * (r % 16) + r / 16))) k)) 72 41) (f1 + (16 * (k % 16) + k / 16)) = ka_I h 96 (f1 + (16 * (k % 16) + k / 16)) from kn_rd h1 (by omega) rfl]
    rw [← kh_b_s (n := k) _ _ _ rfl, ← ka_sI_F] at ih
    exact ih
theorem kn_one (hT : t + 256 ≤ 3072) (h1 : f1 + 256 ≤ t) (e : R (.inl none) (ka_sF h 96 (kh_b (ka_I h 96) t (fun r => if 0 < ka_I h 96 (f1 + r) then 1 else 0) 256))) : kq_ex g d 202 R 311 [.ref 72, x1, .int (nI t), x3, .int (nI f1), x5, z6, z7, z8] [] h := by
  refine kq_seg (fun p => Nat.beq p 314) 4 ?_
  have hd := kq_for (P := fun k => kq_ex g d 202 R 314 [.ref 72, x1, .int (nI t), x3, .int (nI f1), x5, .int (nI k), z7, z8] [] (ka_sF h 96 (kh_b (ka_I h 96) t (fun r => if 0 < ka_I h 96 (f1 + r) then 1 else 0) k))) 256 ?_ (fun k hk ih => ?_)
  · rw [kh_b_0, ka_sF_eta] at hd
    exact hd
  · exact kq_seg (fun p => Nat.beq p 314) 20 ⟨fun _ => e, fun c => absurd c (nI_nlt (b := 256) (by omega) (by omega))⟩
  · rw [nI_succ] at ih
    refine kq_seg (fun p => Nat.beq p 314) 40 ⟨fun c => absurd (nI_lt (b := 256) hk (by omega)) c, fun _ => ⟨kn_in (by omega) hk, ?_⟩⟩
    rw [kn_cl (t := f1) (by omega) hk, show ka_I (ka_sF h 96 (kh_b (ka_I h 96) t (fun r => if 0 < ka_I h 96 (f1 + r) then 1 else 0) k)) (kq_p (ka_sF h 96 (kh_b (ka_I h 96) t (fun r => if 0 < ka_I h 96 (f1 + r) then 1 else 0) k)) 72 41) (f1 + k) = ka_I h 96 (f1 + k) from kn_rd h1 hk rfl]
    refine ⟨fun c => ⟨kn_in hT hk, ?_⟩, fun c => ⟨kn_in hT hk, ?_⟩⟩
    · rw [kn_cl hT hk]
      rw [← kh_b_s (n := k) (x := 0) _ _ _ (if_neg c), ← ka_sI_F] at ih
      exact ih
    · rw [kn_cl hT hk]
      rw [← kh_b_s (n := k) (x := 1) _ _ _ (if_pos c), ← ka_sI_F] at ih
      exact ih
theorem kn_add (hT : t + 256 ≤ 3072) (h1 : f1 + 256 ≤ t) (h2 : f2 + 256 ≤ t) (e : R (.inl none) (ka_sF h 96 (kh_b (ka_I h 96) t (fun r => ka_I h 96 (f1 + r) + ka_I h 96 (f2 + r)) 256))) : kq_ex g d 202 R 514 [.ref 72, x1, .int (nI t), x3, .int (nI f1), .int (nI f2), z6, z7, z8] [] h := by
  refine kq_seg (fun p => Nat.beq p 517) 4 ?_
  have hd := kq_for (P := fun k => kq_ex g d 202 R 517 [.ref 72, x1, .int (nI t), x3, .int (nI f1), .int (nI f2), .int (nI k), z7, z8] [] (ka_sF h 96 (kh_b (ka_I h 96) t (fun r => ka_I h 96 (f1 + r) + ka_I h 96 (f2 + r)) k))) 256 ?_ (fun k hk ih => ?_)
  · rw [kh_b_0, ka_sF_eta] at hd
    exact hd
  · exact kq_seg (fun p => Nat.beq p 517) 20 ⟨fun _ => e, fun c => absurd c (nI_nlt (b := 256) (by omega) (by omega))⟩
  · rw [nI_succ] at ih
    refine kq_seg (fun p => Nat.beq p 517) 40 ⟨fun c => absurd (nI_lt (b := 256) hk (by omega)) c, fun _ => ⟨kn_in (by omega) hk, ⟨kn_in (by omega) hk, ⟨kn_in hT hk, ?_⟩⟩⟩⟩
    rw [kn_cl (t := f1) (by omega) hk, kn_cl (t := f2) (by omega) hk, kn_cl hT hk, show ka_I (ka_sF h 96 (kh_b (ka_I h 96) t (fun r => ka_I h 96 (f1 + r) + ka_I h 96 (f2 + r)) k)) (kq_p (ka_sF h 96 (kh_b (ka_I h 96) t (fun r => ka_I h 96 (f1 + r) + ka_I h 96 (f2 + r)) k)) 72 41) (f1 + k) = ka_I h 96 (f1 + k) from kn_rd h1 hk rfl, show ka_I (ka_sF h 96 (kh_b (ka_I h 96) t (fun r => ka_I h 96 (f1 + r) + ka_I h 96 (f2 + r)) k)) (kq_p (ka_sF h 96 (kh_b (ka_I h 96) t (fun r => ka_I h 96 (f1 + r) + ka_I h 96 (f2 + r)) k)) 72 41) (f2 + k) = ka_I h 96 (f2 + k) from kn_rd h2 hk rfl]
    rw [← kh_b_s (n := k) _ _ _ rfl, ← ka_sI_F] at ih
    exact ih
theorem kn_less (hT : t + 256 ≤ 3072) (h1 : f1 + 256 ≤ t) (h2 : f2 + 256 ≤ t) (e : R (.inl none) (ka_sF h 96 (kh_b (ka_I h 96) t (fun r => ka_I h 96 (f1 + r) - ka_I h 96 (f2 + r)) 256))) : kq_ex g d 202 R 564 [.ref 72, x1, .int (nI t), x3, .int (nI f1), .int (nI f2), z6, z7, z8] [] h := by
  refine kq_seg (fun p => Nat.beq p 567) 4 ?_
  have hd := kq_for (P := fun k => kq_ex g d 202 R 567 [.ref 72, x1, .int (nI t), x3, .int (nI f1), .int (nI f2), .int (nI k), z7, z8] [] (ka_sF h 96 (kh_b (ka_I h 96) t (fun r => ka_I h 96 (f1 + r) - ka_I h 96 (f2 + r)) k))) 256 ?_ (fun k hk ih => ?_)
  · rw [kh_b_0, ka_sF_eta] at hd
    exact hd
  · exact kq_seg (fun p => Nat.beq p 567) 20 ⟨fun _ => e, fun c => absurd c (nI_nlt (b := 256) (by omega) (by omega))⟩
  · rw [nI_succ] at ih
    refine kq_seg (fun p => Nat.beq p 567) 40 ⟨fun c => absurd (nI_lt (b := 256) hk (by omega)) c, fun _ => ⟨kn_in (by omega) hk, ⟨kn_in (by omega) hk, ⟨kn_in hT hk, ?_⟩⟩⟩⟩
    rw [kn_cl (t := f1) (by omega) hk, kn_cl (t := f2) (by omega) hk, kn_cl hT hk, show ka_I (ka_sF h 96 (kh_b (ka_I h 96) t (fun r => ka_I h 96 (f1 + r) - ka_I h 96 (f2 + r)) k)) (kq_p (ka_sF h 96 (kh_b (ka_I h 96) t (fun r => ka_I h 96 (f1 + r) - ka_I h 96 (f2 + r)) k)) 72 41) (f1 + k) = ka_I h 96 (f1 + k) from kn_rd h1 hk rfl, show ka_I (ka_sF h 96 (kh_b (ka_I h 96) t (fun r => ka_I h 96 (f1 + r) - ka_I h 96 (f2 + r)) k)) (kq_p (ka_sF h 96 (kh_b (ka_I h 96) t (fun r => ka_I h 96 (f1 + r) - ka_I h 96 (f2 + r)) k)) 72 41) (f2 + k) = ka_I h 96 (f2 + k) from kn_rd h2 hk rfl]
    rw [← kh_b_s (n := k) _ _ _ rfl, ← ka_sI_F] at ih
    exact ih
theorem kn_both (hT : t + 256 ≤ 3072) (h1 : f1 + 256 ≤ t) (h2 : f2 + 256 ≤ t) (e : R (.inl none) (ka_sF h 96 (kh_b (ka_I h 96) t (fun r => if ka_I h 96 (f1 + r) < ka_I h 96 (f2 + r) then ka_I h 96 (f1 + r) else ka_I h 96 (f2 + r)) 256))) : kq_ex g d 202 R 614 [.ref 72, x1, .int (nI t), x3, .int (nI f1), .int (nI f2), z6, z7, z8] [] h := by
  refine kq_seg (fun p => Nat.beq p 617) 4 ?_
  have hd := kq_for (P := fun k => kq_ex g d 202 R 617 [.ref 72, x1, .int (nI t), x3, .int (nI f1), .int (nI f2), .int (nI k), z7, z8] [] (ka_sF h 96 (kh_b (ka_I h 96) t (fun r => if ka_I h 96 (f1 + r) < ka_I h 96 (f2 + r) then ka_I h 96 (f1 + r) else ka_I h 96 (f2 + r)) k))) 256 ?_ (fun k hk ih => ?_)
  · rw [kh_b_0, ka_sF_eta] at hd
    exact hd
  · exact kq_seg (fun p => Nat.beq p 617) 20 ⟨fun _ => e, fun c => absurd c (nI_nlt (b := 256) (by omega) (by omega))⟩
  · rw [nI_succ] at ih
    refine kq_seg (fun p => Nat.beq p 617) 60 ⟨fun c => absurd (nI_lt (b := 256) hk (by omega)) c, fun _ => ⟨kn_in (by omega) hk, ⟨kn_in (by omega) hk, ?_⟩⟩⟩
    rw [kn_cl (t := f1) (by omega) hk, kn_cl (t := f2) (by omega) hk, show ka_I (ka_sF h 96 (kh_b (ka_I h 96) t (fun r => if ka_I h 96 (f1 + r) < ka_I h 96 (f2 + r) then ka_I h 96 (f1 + r) else ka_I h 96 (f2 + r)) k)) (kq_p (ka_sF h 96 (kh_b (ka_I h 96) t (fun r => if ka_I h 96 (f1 + r) < ka_I h 96 (f2 + r) then ka_I h 96 (f1 + r) else ka_I h 96 (f2 + r)) k)) 72 41) (f1 + k) = ka_I h 96 (f1 + k) from kn_rd h1 hk rfl, show ka_I (ka_sF h 96 (kh_b (ka_I h 96) t (fun r => if ka_I h 96 (f1 + r) < ka_I h 96 (f2 + r) then ka_I h 96 (f1 + r) else ka_I h 96 (f2 + r)) k)) (kq_p (ka_sF h 96 (kh_b (ka_I h 96) t (fun r => if ka_I h 96 (f1 + r) < ka_I h 96 (f2 + r) then ka_I h 96 (f1 + r) else ka_I h 96 (f2 + r)) k)) 72 41) (f2 + k) = ka_I h 96 (f2 + k) from kn_rd h2 hk rfl]
    refine ⟨fun c => ⟨kn_in (by omega) hk, ⟨kn_in hT hk, ?_⟩⟩, fun c => ⟨kn_in (by omega) hk, ⟨kn_in hT hk, ?_⟩⟩⟩
    · rw [kn_cl (t := f2) (by omega) hk, kn_cl hT hk, show ka_I (ka_sF h 96 (kh_b (ka_I h 96) t (fun r => if ka_I h 96 (f1 + r) < ka_I h 96 (f2 + r) then ka_I h 96 (f1 + r) else ka_I h 96 (f2 + r)) k)) (kq_p (ka_sF h 96 (kh_b (ka_I h 96) t (fun r => if ka_I h 96 (f1 + r) < ka_I h 96 (f2 + r) then ka_I h 96 (f1 + r) else ka_I h 96 (f2 + r)) k)) 72 41) (f2 + k) = ka_I h 96 (f2 + k) from kn_rd h2 hk rfl]
      rw [← kh_b_s (n := k) (x := ka_I h 96 (f2 + k)) _ _ _ (if_neg c), ← ka_sI_F] at ih
      exact ih
    · rw [kn_cl (t := f1) (by omega) hk, kn_cl hT hk, show ka_I (ka_sF h 96 (kh_b (ka_I h 96) t (fun r => if ka_I h 96 (f1 + r) < ka_I h 96 (f2 + r) then ka_I h 96 (f1 + r) else ka_I h 96 (f2 + r)) k)) (kq_p (ka_sF h 96 (kh_b (ka_I h 96) t (fun r => if ka_I h 96 (f1 + r) < ka_I h 96 (f2 + r) then ka_I h 96 (f1 + r) else ka_I h 96 (f2 + r)) k)) 72 41) (f1 + k) = ka_I h 96 (f1 + k) from kn_rd h1 hk rfl]
      rw [← kh_b_s (n := k) (x := ka_I h 96 (f1 + k)) _ _ _ (if_pos c), ← ka_sI_F] at ih
      exact ih
end M8
