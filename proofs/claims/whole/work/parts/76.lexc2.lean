/-! ===== the class reads: words, terms, relations ===== -/
section L6
variable {g : Nat × (Nat → Int32)} {d : Nat} {h : ka_H} {s : Nat → Nat → Int32} {w : Nat → Nat} {R : ka_R → ka_H → Prop} {n p i j : Nat} {tp : Nat → Int32}
theorem ko_w (hf : kf g h) (hi : i < 19) : ka_K h (1000020 + i) = (21, 2) ∧ ka_P h (1000020 + i) 0 = 1000060 + i ∧ ka_I h (1000020 + i) 1 = 0 ∧ ka_K h (1000060 + i) = (33, (kt_wd i).length) ∧ ∀ j, ka_I h (1000060 + i) j = (ka_words.getD i []).getD j 0 := by
  have h1 := hf.2.2.2 (20 + i)
  have h2 := hf.2.2.2 (60 + i)
  rw [show 1000000 + (20 + i) = 1000020 + i by omega] at h1
  rw [show 1000000 + (60 + i) = 1000060 + i by omega] at h2
  refine ⟨?_, ?_, ?_, ?_, fun j => ?_⟩
  · rw [h1.1]; unfold kp_sK
    rw [if_neg (by omega), if_neg (by omega), if_pos (by omega)]
  · rw [(h1.2 0).2]; unfold ka_sRf
    rw [if_neg (by omega), if_neg (by omega), if_pos (by omega), if_pos rfl]; omega
  · rw [(h1.2 1).1]; unfold kp_sI
    rw [if_neg (by omega), if_pos (by omega)]
  · rw [h2.1]; unfold kp_sK
    rw [if_neg (by omega), if_neg (by omega), if_neg (by omega), if_neg (by omega), if_pos (by omega), show 60 + i - 60 = i by omega, (kt_wd_l i hi).1]
  · rw [(h2.2 j).1]; unfold kp_sI
    rw [if_neg (by omega), if_neg (by omega), if_pos (by omega), show 60 + i - 60 = i by omega]
theorem kq_pw (hf : kf g h) (hi : i < 19) : kq_p h (1000020 + i) 0 = 1000060 + i := (kq_p_s hf _ _).trans (ko_w hf hi).2.1
theorem kc_coder (hf : kf g h) (hi : i < 19) : kp_T (d + 1) 268 [.ref (1000020 + i)] h (kp_is (.int 0) h) := by
  refine kd_in hf rfl rfl rfl (kd_seg kp_no 10 ⟨fun c => absurd c (by decide), fun _ => ⟨by rw [(ko_w hf hi).1], ?_⟩⟩)
  rw [(ko_w hf hi).2.2.1]
  exact ⟨(show narrow .byte (.int 0) = .int 0 from rfl), rfl, rfl⟩
theorem kc_length (hf : kf g h) (hi : i < 19) : kp_T (d + 2) 267 [.ref (1000020 + i)] h (kp_is (.int (nI (kt_wd i).length)) h) := by
  refine kd_in hf rfl rfl rfl (kd_seg kp_no 10 ⟨by rw [(ko_w hf hi).1], ?_⟩)
  rw [kq_pw hf hi]
  refine ⟨by rw [(ko_w hf hi).2.2.2.1]; show 30 ≤ 33 ∧ 33 ≤ 40; decide, ⟨by rw [(ko_w hf hi).1], ?_⟩⟩
  rw [(ko_w hf hi).2.2.2.1]
  refine kq_ci (kc_coder hf hi) hf ⟨trivial, ?_, rfl⟩
  have hl := (kt_wd_l i hi).2.2
  rw [show Int32.ofNat (33, (kt_wd i).length).snd >>> ((0 : Int32) &&& 31) = nI (kt_wd i).length from sb_shr0 _]
theorem kc_isLatin1 (hf : kf g h) (hi : i < 19) : kp_T (d + 1) 269 [.ref (1000020 + i)] h (kp_is (.int 1) h) := by
  refine kd_in hf rfl rfl rfl (kd_seg kp_no 12 ⟨fun c => absurd c (by decide), fun _ => ⟨by rw [(ko_w hf hi).1], ?_⟩⟩)
  rw [(ko_w hf hi).2.2.1]
  exact ⟨fun c => absurd rfl c, fun _ => ⟨Or.inr rfl, rfl, rfl⟩⟩
theorem kc_checkIdx3 (hf : kf g h) {z : Value} (hj : j < n) (hn : n < 2 ^ 31) (hz : z = .float 0) : kp_T (d + 1) 273 [.int (nI j), .int (nI n), z] h (kp_is (.int (nI j)) h) := by
  subst hz
  refine kd_in hf rfl rfl rfl (kd_seg kp_no 12 ⟨fun c => absurd c (nI_pos (by omega)), fun _ => ⟨fun _ => ⟨trivial, rfl, rfl⟩, fun c => absurd (nI_lt hj hn) c⟩⟩)
theorem kc_checkIdx (hf : kf g h) (hj : j < n) (hn : n < 2 ^ 31) : kp_T (d + 2) 271 [.int (nI j), .int (nI n)] h (kp_vo h) := by
  refine kd_in hf rfl rfl rfl (kd_seg kp_no 12 ?_)
  exact kq_ci (kc_checkIdx3 hf hj hn rfl) hf ⟨rfl, rfl⟩
theorem kc_charAt1 (hf : kf g h) (hi : i < 19) (hj : j < (kt_wd i).length) : kp_T (d + 3) 272 [.ref (1000060 + i), .int (nI j)] h (kp_is (.int (nI ((kt_wd i).getD j 0))) h) := by
  have hl := (kt_wd_l i hi).2.2
  have hw := ko_w hf hi
  refine kd_in hf rfl rfl rfl (kd_seg kp_no 14 ⟨by rw [hw.2.2.2.1]; show 30 ≤ 33 ∧ 33 ≤ 40; decide, ?_⟩)
  rw [hw.2.2.2.1]
  refine kq_cv (kc_checkIdx hf hj (by omega)) hf ⟨⟨Or.inr (by rw [hw.2.2.2.1]), by rw [hw.2.2.2.1]; exact nI_in hj (by omega)⟩, ?_⟩
  rw [nI_clamp (by omega), hw.2.2.2.2 j]
  have := kt_wd_c i hi j (by omega)
  refine ⟨this.2, ?_, rfl⟩
  rw [← this.1]
  rfl
theorem kc_charAt (hf : kf g h) (hi : i < 19) (hj : j < (kt_wd i).length) : kp_T (d + 4) 270 [.ref (1000020 + i), .int (nI j)] h (kp_is (.int (nI ((kt_wd i).getD j 0))) h) := by
  have hl := (kt_wd_l i hi).2.2
  have hw := ko_w hf hi
  refine kd_in hf rfl rfl rfl (kd_seg kp_no 14 ⟨by rw [hw.1], ?_⟩)
  refine kq_ci (kc_isLatin1 hf hi) hf ⟨fun c => absurd c (by decide), fun _ => ⟨by rw [hw.1], ?_⟩⟩
  rw [kq_pw hf hi]
  refine kq_ci (kc_charAt1 hf hi hj) hf ⟨?_, rfl, rfl⟩
  have := kt_wd_c i hi j (by omega)
  rw [this.1] at this
  exact this.2
theorem kt_bw_sm : kt_bw 97 122 = kt_sm := rfl
theorem kt_bw_dg : kt_bw 48 57 = kt_dg := rfl
theorem kc_takeWord (hf : kf g h) (hU : kU h n tp) (hp : s 9 2 = nI p) (hpn : p ≤ n) (hi : i < 19) (e1 : kt_is tp n (kt_s tp n p) (kt_wd i) → R (kp_ri 1) (kcs h (ct_at s (kt_s tp n p + (kt_wd i).length)) w)) (e2 : ¬ kt_is tp n (kt_s tp n p) (kt_wd i) → R (kp_ri 0) (kcs h (ct_at s (kt_s tp n p)) w)) : kp_T (d + 5) 56 [.ref 9, .ref (1000020 + i)] (kcs h s w) R := by
  have hle := kt_s_le tp n p hpn
  have h200 := hU.2.1
  have hl := kt_wd_l i hi
  generalize hq : kt_s tp n p = q at e1 e2 hle
  have hfq : kf g (kcs h (ct_at s q) w) := kcs_f hf
  have hrl := kt_r_le kt_sm tp n q hle.2
  have hK : (ka_K (kcs h (ct_at s q) w) (1000020 + i)).1 = 21 := by rw [(ko_w hfq hi).1]
  have hK9 : (ka_K (kcs h (ct_at s q) w) 9).1 = 6 := kK hfq rfl rfl
  refine kd_in (kcs_f hf) rfl rfl rfl (kd_seg (fun p => Nat.beq p 24) 30 ⟨kK (kcs_f (s := s) (w := w) hf) rfl rfl, ?_⟩)
  refine kc_skip hf hU hp hpn ?_
  rw [hq]
  refine ⟨hfq, ⟨hK9, ?_⟩⟩
  refine kc_run (s := ct_at s q) (lo := 97) (hi := 122) hf hU (ka_uS _ _ _ _) hle.2 ⟨hfq, ⟨hK, ?_⟩⟩
  rw [kt_bw_sm]
  refine kq_ci (kc_length hfq hi) hfq ⟨fun c => ?_, fun c => ?_⟩
  · have hlen : kt_r kt_sm tp n q = (kt_wd i).length := (nI_eq (by omega) (by omega)).mp c
    have main : ∀ j k, k + j = (kt_wd i).length → (∀ i', i' < k → tp (q + i') = nI ((kt_wd i).getD i' 0)) → kd_ex g (d + 4) 56 R 24 [.ref 9, .ref (1000020 + i), .int (nI k)] [] (kcs h (ct_at s q) w) := by
      intro j
      induction j with
      | zero =>
        intro k hk hall
        refine kd_seg (fun p => Nat.beq p 24) 40 ⟨hK, ?_⟩
        refine kq_ci (kc_length hfq hi) hfq ⟨fun _ => ⟨hK9, ⟨hK, ?_⟩⟩, fun c => absurd c (nI_nlt (by omega) (by omega))⟩
        refine kq_ci (kc_length hfq hi) hfq ⟨hK9, ⟨Or.inr rfl, ?_⟩⟩
        have := e1 ⟨hlen, fun i' hi' => hall i' (by omega)⟩
        have ew : ka_sI (kcs h (ct_at s q) w) 9 2 (nI q + nI (kt_wd i).length) = kcs h (ct_at s (q + (kt_wd i).length)) w := by
          rw [kcs_sI _ rfl, ka_u_u, nI_add]
        rw [← ew] at this
        exact this
      | succ j ih =>
        intro k hk hall
        refine kd_seg (fun p => Nat.beq p 24) 40 ⟨hK, ?_⟩
        refine kq_ci (kc_length hfq hi) hfq ⟨fun c => absurd (nI_lt (by omega) (by omega)) c, fun _ => ⟨hK9, ⟨hK9, ?_⟩⟩⟩
        rw [show ka_I (kcs h (ct_at s q) w) 9 2 = nI q from rfl]
        have hqk : q + k < n := by omega
        have hrd : ka_I (kcs h (ct_at s q) w) (kq_p (kcs h (ct_at s q) w) 9 0) (q + k) = tp (q + k) := hU.2.2.1 _ hqk
        refine ⟨⟨Or.inl (kK hfq rfl rfl), by rw [nI_add, show (ka_K (kcs h (ct_at s q) w) (kq_p (kcs h (ct_at s q) w) 9 0)).2 = 200 from kZ hfq (a := 10) rfl rfl]; exact nI_in (N := 200) (by omega) (by omega)⟩, ⟨hK, ?_⟩⟩
        rw [nI_add, nI_clamp (by omega), hrd]
        refine kq_ci (kc_charAt hfq hi (j := k) (by omega)) hfq ⟨fun c2 => ?_, fun c2 => ?_⟩
        · have := ih (k + 1) (by omega) (fun i' hi' => by
            rcases Nat.lt_or_ge i' k with z | z
            · exact hall i' z
            · rw [show i' = k by omega]; exact c2)
          rw [nI_succ] at this
          exact this
        · exact ⟨Or.inl rfl, e2 (fun z => c2 (z.2 k (by omega)))⟩
    exact main (kt_wd i).length 0 (by omega) (fun i' hi' => absurd hi' (Nat.not_lt_zero i'))
  · exact ⟨Or.inl rfl, e2 (fun z => c (by rw [z.1]))⟩
/-- a sign is added -/
theorem kc_addSign (hf : kf g h) {sc : Nat} (hs : s 13 5 = nI sc) (hlt : sc < 200) {v : Int32} (e : R (kp_ri v) (kcs h (ka_u (ka_u s 38 sc v) 13 5 (nI (sc + 1))) w)) : kp_T (d + 1) 12 [.ref 13, .int v] (kcs h s w) R := by
  refine kq_in (kcs_f hf) rfl rfl rfl (kq_seg kp_no 30 ⟨fun c => ?_, fun c => ⟨?_, ?_⟩⟩)
  · rw [show ka_I (kcs h s w) 13 5 = nI sc from hs] at c
    exact absurd (nI_lt (b := 200) hlt (by omega)) c
  · rw [show ka_I (kcs h s w) 13 5 = nI sc from hs]; exact nI_in (N := 200) hlt (by omega)
  · rw [show ka_I (kcs h s w) 13 5 = nI sc from hs, nI_clamp (by omega)]
    have ew : ka_sI (ka_sI (kcs h s w) 38 sc v) 13 5 (s 13 5 + 1) = kcs h (ka_u (ka_u s 38 sc v) 13 5 (nI (sc + 1))) w := by
      rw [kcs_sI v rfl, kcs_sI _ rfl, hs, ← nI_succ]
    rw [← ew] at e
    exact ⟨trivial, e⟩
theorem kc_failed (hf : kf g h) {kd pl : Int32} (e : R (kp_ri (-1)) (kcs h (ct_bad s kd pl) w)) : kp_T (d + 2) 11 [.ref 13, .int kd, .int pl] (kcs h s w) R :=
  kq_in (kcs_f hf) rfl rfl rfl (kq_seg kp_no 10 (kc_fail hf ⟨kcs_f hf, ⟨trivial, e⟩⟩))
end L6
