/-! ===== questions: the class reads one ===== -/
section QC
variable {g : Nat × (Nat → Int32)} {d : Nat} {h : ka_H} {R : ka_R → ka_H → Prop} {Q F : Nat} {tp : Nat → Int32}
theorem kb_f (hf : kf g h) {n : Nat} : kf g (kb_h h n) := kf_w (kf_w (kf_w (kf_w (kf_w hf 9 rfl rfl) 9 rfl rfl) 9 rfl rfl) 9 rfl rfl) 9 rfl rfl
theorem kc_readWhole0 {D n : Nat} {o : kX} (hf : kf g h) (hU : kU h n tp) (hp : ka_I h 9 2 = nI 0) (hX : kXC D n tp 0 0 0 o) (hXP : kXQ n 0 0 0 o) (hD : 2 ≤ D)
    (e1 : ∀ kd pl s' w', kQt tp n o = .inl (kd, pl) → s' 9 3 = nI kd → s' 9 4 = nI pl → R (kp_ri 0) (kcs h s' w'))
    (e2 : ∀ nds s' w' sc, kQt tp n o = .inr nds → s' 9 3 = ka_I h 9 3 → s' 9 4 = ka_I h 9 4 → s' 11 4 = nI nds.length → sc ≤ n → (∀ j x, nds[j]? = some x → kCn s' w' j x sc) → R (kp_ri 1) (kcs h s' w')) : kp_T (D + 1) 19 [.ref 11] h R := by
  have := kc_readWhole (s := ka_I h) (w := fun a => ka_P h a 0) hf hU hp hX hXP hD e1 e2
  rw [kcs_0] at this
  exact this
theorem kc_questionC {D : Nat} {nn : Int32} {o : Nat → kX} (hf : kf g h) (hn : h.1 < 1000000) (hF : ka_I h 9 1 = nI F) (hF200 : F ≤ 200) (hQ : ka_I h 1 9 = nI Q) (hQ6 : Q ≤ 6) (htp : ∀ k, k < F → ka_I h 10 k = tp k) (htb : ∀ k, k < F → ∃ c, c < 256 ∧ tp k = nI c) (hX : ∀ n, n ≤ F → kXC D n tp 0 0 0 (o n)) (hXP : ∀ n, n ≤ F → kXQ n 0 0 0 (o n)) (hD : 2 ≤ D)
    (e1 : ¬ (0 ≤ nn ∧ nn ≤ nI F) → R (.inr (0, h.1)) (ka_new h 50 6 6))
    (e2 : ∀ n, nn = nI n → n ≤ F → Q = 6 → R (kp_ri (-1)) (kb_h h n))
    (e3 : ∀ n kd pl s' w', nn = nI n → n ≤ F → Q < 6 → kQt tp n (o n) = .inl (kd, pl) → s' 9 3 = nI kd → s' 9 4 = nI pl → R (kp_ri (nI kd - 10)) (kcs (kb_h h n) s' w'))
    (e4 : ∀ n nds s' w' sc, nn = nI n → n ≤ F → Q < 6 → kQt tp n (o n) = .inr nds → s' 9 3 = 0 → s' 9 4 = -1 → s' 11 4 = nI nds.length → sc ≤ n → (∀ j x, nds[j]? = some x → kCn s' w' j x sc) → kq_ex g (D + 1) 89 R 65 [.ref 1, .int nn] [] (kcs (kb_h h n) s' w')) : kp_T (D + 2) 89 [.ref 1, .int nn] h R := by
  obtain ⟨D', rfl⟩ : ∃ D', D = D' + 2 := ⟨D - 2, by omega⟩
  have j15 : ¬ (0 ≤ nn ∧ nn ≤ nI F) → kq_ex g (D' + 3) 89 R 15 [.ref 1, .int nn] [] h := fun c => kq_seg kp_no 10 ⟨hn, e1 c⟩
  refine kq_in hf rfl rfl rfl (kq_seg (fun p => Nat.beq p 15 || Nat.beq p 65) 60 ⟨fun c => ?_, fun c => ⟨fun c2 => ?_, fun c2 => ?_⟩⟩)
  · exact j15 (fun z => Int32.not_le.mpr c z.1)
  · have hok : 0 ≤ nn ∧ nn ≤ nI F := ⟨Int32.not_lt.mp c, by rw [← hF]; exact Int32.not_lt.mp c2⟩
    obtain ⟨n, hnF, rfl⟩ : ∃ n, n ≤ F ∧ nn = nI n := by
      have h1 := Int32.le_iff_toInt_le.mp hok.1
      have h2 := Int32.le_iff_toInt_le.mp hok.2
      rw [nI_toInt (by omega)] at h2
      have h1' : (0 : Int) ≤ nn.toInt := h1
      exact ⟨nn.toInt.toNat, by omega, Int32.toInt_inj.mp (by rw [nI_toInt (by omega)]; omega)⟩
    refine kc_begin hf hF hnF hF200 ⟨kb_f hf, ⟨fun c3 => ?_, fun c3 => ?_⟩⟩
    · have c3' : nI Q < nI 6 := by rw [← hQ]; exact c3
      have hQ7 := (nI_ltI (by omega) (by omega)).mp c3'
      have hU : kU (kb_h h n) n tp := ⟨rfl, by omega, fun k hk => htp k (by omega), fun k hk => htb k (by omega)⟩
      refine kc_readWhole0 (kb_f hf) hU rfl (hX n hnF) (hXP n hnF) (by omega) (fun kd pl s' w' hq y3 y4 => ⟨kcs_f (kb_f hf), ⟨fun c => absurd rfl c, fun _ => ?_⟩⟩) (fun nds s' w' sc hq y3 y4 y5 y6 y7 => ⟨kcs_f (kb_f hf), ⟨fun _ => ?_, fun c => absurd c (by decide)⟩⟩)
      · refine ⟨trivial, ?_⟩
        rw [show ka_I (kcs (kb_h h n) s' w') (kq_p (kcs (kb_h h n) s' w') 1 1) 3 = nI kd from y3]
        exact e3 n kd pl s' w' rfl hnF hQ7 hq y3 y4
      · exact e4 n nds s' w' sc rfl hnF hQ7 hq y3 y4 y5 y6 y7
    · have hQ7 : Q = 6 := by
        rcases Nat.lt_or_ge Q 6 with z | z
        · exact absurd (show ka_I h 1 9 < nI 6 by rw [hQ]; exact nI_lt z (by omega)) c3
        · omega
      exact ⟨trivial, e2 n rfl hnF hQ7⟩
  · exact j15 (fun z => by rw [← hF] at z; exact Int32.not_le.mpr c2 z.2)
end QC
