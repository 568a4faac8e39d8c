/-! ===== conditions: both sides read alike ===== -/
def MP (lv : Nat) : Nat := 10 + 4 * (7 - lv)
def CP (lv : Nat) : Nat := 12 + 5 * (7 - lv)
/-- the code of a chain's rest: the number on top follows -/
def kv_cc (cd : List Int32) (H0 H : Nat → Nat → Bool) (D : Nat) : Prop := ∀ a b sp S, a < 16 → b < 16 → 1 ≤ sp → sp + D ≤ 100 → S (sp - 1) = (if H0 a b = true then 1 else 0) → ∃ S', kv_xl a b cd (sp, S) = some (sp, S') ∧ S' (sp - 1) = (if H a b = true then 1 else 0) ∧ ∀ j, j < sp - 1 → S' j = S j
def kPc (n p D : Nat) (H0 : Nat → Nat → Bool) (o : kO) : Prop := (∀ kd pl, o = .inl (kd, pl) → pl ≤ n ∧ 1 ≤ kd ∧ kd ≤ 3) ∧ ∀ p' tk cd H, o = .inr (p', tk, cd, H) → p ≤ p' ∧ p' ≤ n ∧ p + tk.length ≤ p' ∧ p + cd.length ≤ p' ∧ kv_cc cd H0 H D ∧ ∀ c, c ∈ tk → kt_vc c
theorem kMd.le {D D' m n p lv : Nat} {tp : Nat → Int32} {o : kO} (h : kMd D m n tp p lv o) (hD : D ≤ D') : kMd D' m n tp p lv o := fun g h' s nt nc R a b c d e f i j k l q => (h g h' s nt nc R a b c d e f i j k l q).le hD
theorem kCd.le {D D' m n p lv b pp cc rs : Nat} {tp : Nat → Int32} {o : kO} (h : kCd D m n tp p lv b pp cc rs o) (hD : D ≤ D') : kCd D' m n tp p lv b pp cc rs o := fun g h' s w sc R a b c d e f i => (h g h' s w sc R a b c d e f i).le hD
theorem kv_cx.le {cd : List Int32} {H : Nat → Nat → Bool} {D D' : Nat} (h : kv_cx cd H D) (hD : D ≤ D') : kv_cx cd H D' := fun a b sp S ha hb hs => h a b sp S ha hb (by omega)
theorem kPd.le {n p p' D D' : Nat} {o : kO} (h : kPd n p' D o) (hp : p ≤ p') (hD : D ≤ D') : kPd n p D' o := ⟨h.1, fun q tk cd H e => by
  have := h.2 q tk cd H e
  exact ⟨by omega, this.2.1, by omega, by omega, this.2.2.2.2.1, this.2.2.2.2.2.1.le hD, this.2.2.2.2.2.2⟩⟩
section C13
variable {n p lv : Nat} {tp : Nat → Int32}

theorem kan_Mfirst {D Dp : Nat} {o1 : kO} {rest : Nat → (Nat → Nat → Bool) → kO} (hM : kMd D 180 n tp p lv o1) (hP : kPd n p Dp o1) (hn : n ≤ 200) (hR : ∀ p1 tk cd H, o1 = .inr (p1, tk, cd, H) → kan_M D n tp p1 lv (rest p1 H)) (hD : 1 ≤ D) : kMd (D + 1) 179 n tp p lv (kan_f o1 rest) := by
  intro g h s nt nc R hf hT h23 h24 h26 h30 h31 hnt hnc e1 e2
  obtain ⟨D', rfl⟩ : ∃ D', D = D' + 1 := ⟨D - 1, by omega⟩
  refine kq_in (kms_f hf) rfl rfl rfl (kq_seg (fun p => Nat.beq p 4) 10 ?_)
  refine hM g h s nt nc _ hf hT h23 h24 h26 h30 h31 hnt hnc (fun kd pl s' ho hfr c24 c25 => ⟨kms_f hf, ?_⟩) (fun p1 tk cd H s3 ho hok => ⟨kms_f hf, ?_⟩)
  · have hpl := hP.1 kd pl ho
    have hb' : ¬ s' 72 24 = -1 := by rw [c24]; exact nI_ne_m1 (by omega)
    refine (kq_seg kp_no 10 ?_ : kq_ex g (D' + 1) 179 R 4 [.ref 72] [] (kms h s'))
    exact kq_ci (kc_fine0 hf hb') (kms_f hf) ⟨fun _ => e1 kd pl s' (by rw [ho]; rfl) hfr c24 c25, fun c => absurd rfl c⟩
  · have hpp := hP.2 p1 tk cd H ho
    refine hR p1 tk cd H ho g h s3 (nt + tk.length) (nc + cd.length) R hf hT hok.2.1 hok.2.2.1 (hok.2.2.2.1.trans h26) hok.2.2.2.2.1.1 hok.2.2.2.2.2.1 (by omega) (by omega) (fun kd pl s' ho2 hfr c24 c25 => ?_) (fun p2 tk2 cd2 H2 s' ho2 hok2 => ?_)
    · refine e1 kd pl s' ?_ (hok.1.tr hfr) c24 c25
      rw [ho]
      show (match rest p1 _ with | .inl x => _ | .inr (p2, tk2, cd2, H2) => _) = _
      rw [ho2]
    · refine e2 p2 (tk ++ tk2) (cd ++ cd2) H2 s' ?_ (hok.tr hok2)
      rw [ho]
      show (match rest p1 _ with | .inl x => _ | .inr (p2, tk2, cd2, H2) => _) = _
      rw [ho2]
/-- the rest of a chain, both sides -/
def kan_S (n : Nat) (tp : Nat → Int32) (lv p : Nat) (H0 : Nat → Nat → Bool) : Prop := ∃ o, kan_M (MP lv + 0) n tp p lv o ∧ kan_C (CP lv + 0) n tp p lv H0 o ∧ kPc n p (14 - 2 * lv) H0 o ∧ kTc 3 H0 o
theorem kan_all (hn : n ≤ 200) (hlv : lv ≤ 6) (P0 : Nat) (hsub : ∀ p, P0 < p → p ≤ n → ∃ o, kMd (MP lv + 0) 180 n tp p lv o ∧ kCd (CP lv + 0) 4 n tp p lv lv (lv + 1) (lv + 1) (23 + lv) o ∧ kPd n p (14 - 2 * lv) o ∧ kTd 0 o) : ∀ j p H0, n - p = j → P0 < p → p ≤ n → kan_S n tp lv p H0 := by
  intro j
  induction j using Nat.strongRecOn with
  | ind j ih =>
    intro p H0 hj hP0 hp
    have hle := kt_s_le tp n p hp
    by_cases hw : kt_is tp n (kt_s tp n p) (kt_wd 15)
    · have hrl := kt_r_le kt_sm tp n (kt_s tp n p) hle.2
      have hr3 : kt_r kt_sm tp n (kt_s tp n p) = 3 := hw.1
      obtain ⟨o1, hM1, hC1, hP1, hT1⟩ := hsub (kt_s tp n p + 3) (by omega) (by omega)
      have hex : ∀ p1 H1, ∃ o, (p < p1 → p1 ≤ n → kan_M (MP lv + 0) n tp p1 lv o ∧ kan_C (CP lv + 0) n tp p1 lv H1 o ∧ kPc n p1 (14 - 2 * lv) H1 o ∧ kTc 3 H1 o) := fun p1 H1 => by
        by_cases c : p < p1 ∧ p1 ≤ n
        · obtain ⟨o, ho⟩ := ih (n - p1) (by omega) p1 H1 rfl (by omega) c.2
          exact ⟨o, fun _ _ => ho⟩
        · exact ⟨.inl (0, 0), fun z1 z2 => absurd ⟨z1, z2⟩ c⟩
      have hrest : ∀ p1 H1, p < p1 → p1 ≤ n → kan_M (MP lv + 0) n tp p1 lv ((fun p1 H1 => Classical.choose (hex p1 H1)) p1 H1) ∧ kan_C (CP lv + 0) n tp p1 lv H1 ((fun p1 H1 => Classical.choose (hex p1 H1)) p1 H1) ∧ kPc n p1 (14 - 2 * lv) H1 ((fun p1 H1 => Classical.choose (hex p1 H1)) p1 H1) ∧ kTc 3 H1 ((fun p1 H1 => Classical.choose (hex p1 H1)) p1 H1) := fun p1 H1 => Classical.choose_spec (hex p1 H1)
      generalize (fun p1 H1 => Classical.choose (hex p1 H1)) = rest at hrest
      refine ⟨kan_o H0 o1 rest, kan_Mstep hp hw hM1 hP1 (fun p1 tk cd H ho => (hrest p1 _ (by have := hP1.2 p1 tk cd H ho; omega) (hP1.2 p1 tk cd H ho).2.1).1) (by unfold MP; omega), kan_Cstep hp (by omega) hw hC1 hP1 (fun p1 tk cd H ho => (hrest p1 _ (by have := hP1.2 p1 tk cd H ho; omega) (hP1.2 p1 tk cd H ho).2.1).2.1) (by unfold CP; omega), ?_, kT_an hT1 (fun p1 tk cd H ho => (hrest p1 _ (by have := hP1.2 p1 tk cd H ho; omega) (hP1.2 p1 tk cd H ho).2.1).2.2.2)⟩
      cases ho : o1 with
      | inl x =>
        refine ⟨fun kd pl e => ?_, fun p' tk cd H e => by cases e⟩
        exact hP1.1 kd pl (ho.trans e)
      | inr x =>
        obtain ⟨p1, tk, cd, H⟩ := x
        have hpp := hP1.2 p1 tk cd H ho
        obtain ⟨-, -, hPc, -⟩ := hrest p1 (fun a b => H0 a b && H a b) (by omega) hpp.2.1
        show kPc n p (14 - 2 * lv) H0 (match rest p1 (fun a b => H0 a b && H a b) with | .inl x => _ | .inr (p2, tk2, cd2, H2) => _)
        cases ho2 : rest p1 (fun a b => H0 a b && H a b) with
        | inl x => exact ⟨fun kd pl e => hPc.1 kd pl (ho2.trans e), fun p' tk cd H e => by cases e⟩
        | inr y =>
          obtain ⟨p2, tk2, cd2, H2⟩ := y
          have hq := hPc.2 p2 tk2 cd2 H2 ho2
          refine ⟨fun kd pl e => (by cases e), fun p' tk' cd' H' e => ?_⟩
          injection e with e
          injection e with a1 a2
          injection a2 with a2 a3
          injection a3 with a3 a4
          subst a1 a2 a3 a4
          refine ⟨by omega, hq.2.1, by simp; omega, by simp; omega, ?_, fun c hc => ?_⟩
          · intro a b sp S ha hb h1 hsp hS
            obtain ⟨S1, x1, v1, k1⟩ := hpp.2.2.2.2.2.1 a b sp S ha hb (by omega)
            have x2 : kv_x1 a b 104 (sp + 1, S1) = some (sp, kh_u S1 (sp - 1) (if (H0 a b && H a b) = true then 1 else 0)) := by
              unfold kv_x1
              rw [if_neg (by decide), if_neg (by decide), if_pos (show 2 ≤ sp + 1 ∧ sp + 1 ≤ 100 by omega)]
              show some (sp + 1 - 1, kh_u S1 (sp + 1 - 2) (kv_c2 104 (S1 (sp + 1 - 2)) (S1 (sp + 1 - 1)))) = _
              rw [show sp + 1 - 1 = sp by omega, show sp + 1 - 2 = sp - 1 by omega, v1, k1 (sp - 1) (by omega), hS]
              cases H0 a b <;> cases H a b <;> rfl
            obtain ⟨S3, x3, v3, k3⟩ := hq.2.2.2.2.1 a b sp (kh_u S1 (sp - 1) (if (H0 a b && H a b) = true then 1 else 0)) ha hb h1 hsp (kh_uS _ _ _)
            refine ⟨S3, ?_, v3, fun j hj => ?_⟩
            · rw [List.append_assoc, kv_xl_ap cd _ _ x1]
              show (match kv_x1 a b 104 (sp + 1, S1) with | some p' => kv_xl a b cd2 p' | none => none) = _
              rw [x2]
              exact x3
            · rw [k3 j hj, kh_uN _ _ (by omega), k1 j (by omega)]
          · simp at hc
            rcases hc with z | z | z
            · rw [z]; unfold kt_vc; omega
            · exact hpp.2.2.2.2.2.2 c z
            · exact hq.2.2.2.2.2 c z
    · refine ⟨.inr (kt_s tp n p, [], [], H0), kan_Mend (d := MP lv + 0 - 2) hp hw |> (fun z => by rw [show MP lv + 0 = MP lv + 0 - 2 + 2 by unfold MP; omega]; exact z), kan_Cend (d := CP lv + 0 - 5) hp (by omega) hw |> (fun z => by rw [show CP lv + 0 = CP lv + 0 - 5 + 5 by unfold CP; omega]; exact z), ⟨fun kd pl e => (by cases e), fun p' tk cd H e => ?_⟩, kTc_r kTk_a0⟩
      injection e with e
      injection e with a1 a2
      injection a2 with a2 a3
      injection a3 with a3 a4
      subst a1 a2 a3 a4
      exact ⟨hle.1, hle.2, by simpa using hle.1, by simpa using hle.1, fun a b sp S _ _ h1 _ hS => ⟨S, by show some (sp, S) = _; rfl, hS, fun _ _ => rfl⟩, fun c hc => by simp at hc⟩

theorem kor_Mfirst {D Dp : Nat} {o1 : kO} {rest : Nat → (Nat → Nat → Bool) → kO} (hM : kMd D 179 n tp p lv o1) (hP : kPd n p Dp o1) (hn : n ≤ 200) (hR : ∀ p1 tk cd H, o1 = .inr (p1, tk, cd, H) → kor_M D n tp p1 lv (rest p1 H)) (hD : 1 ≤ D) : kMd (D + 1) 178 n tp p lv (kor_f o1 rest) := by
  intro g h s nt nc R hf hT h23 h24 h26 h30 h31 hnt hnc e1 e2
  obtain ⟨D', rfl⟩ : ∃ D', D = D' + 1 := ⟨D - 1, by omega⟩
  refine kq_in (kms_f hf) rfl rfl rfl (kq_seg (fun p => Nat.beq p 4) 10 ?_)
  refine hM g h s nt nc _ hf hT h23 h24 h26 h30 h31 hnt hnc (fun kd pl s' ho hfr c24 c25 => ⟨kms_f hf, ?_⟩) (fun p1 tk cd H s3 ho hok => ⟨kms_f hf, ?_⟩)
  · have hpl := hP.1 kd pl ho
    have hb' : ¬ s' 72 24 = -1 := by rw [c24]; exact nI_ne_m1 (by omega)
    refine (kq_seg kp_no 10 ?_ : kq_ex g (D' + 1) 178 R 4 [.ref 72] [] (kms h s'))
    exact kq_ci (kc_fine0 hf hb') (kms_f hf) ⟨fun _ => e1 kd pl s' (by rw [ho]; rfl) hfr c24 c25, fun c => absurd rfl c⟩
  · have hpp := hP.2 p1 tk cd H ho
    refine hR p1 tk cd H ho g h s3 (nt + tk.length) (nc + cd.length) R hf hT hok.2.1 hok.2.2.1 (hok.2.2.2.1.trans h26) hok.2.2.2.2.1.1 hok.2.2.2.2.2.1 (by omega) (by omega) (fun kd pl s' ho2 hfr c24 c25 => ?_) (fun p2 tk2 cd2 H2 s' ho2 hok2 => ?_)
    · refine e1 kd pl s' ?_ (hok.1.tr hfr) c24 c25
      rw [ho]
      show (match rest p1 _ with | .inl x => _ | .inr (p2, tk2, cd2, H2) => _) = _
      rw [ho2]
    · refine e2 p2 (tk ++ tk2) (cd ++ cd2) H2 s' ?_ (hok.tr hok2)
      rw [ho]
      show (match rest p1 _ with | .inl x => _ | .inr (p2, tk2, cd2, H2) => _) = _
      rw [ho2]
/-- the rest of a chain, both sides -/
def kor_S (n : Nat) (tp : Nat → Int32) (lv p : Nat) (H0 : Nat → Nat → Bool) : Prop := ∃ o, kor_M (MP lv + 1) n tp p lv o ∧ kor_C (CP lv + 1) n tp p lv H0 o ∧ kPc n p (15 - 2 * lv) H0 o ∧ kTc 4 H0 o
theorem kor_all (hn : n ≤ 200) (hlv : lv ≤ 6) (P0 : Nat) (hsub : ∀ p, P0 < p → p ≤ n → ∃ o, kMd (MP lv + 1) 179 n tp p lv o ∧ kCd (CP lv + 1) 3 n tp p lv lv (lv) (lv + 1) (15 + lv) o ∧ kPd n p (15 - 2 * lv) o ∧ kTd 1 o) : ∀ j p H0, n - p = j → P0 < p → p ≤ n → kor_S n tp lv p H0 := by
  intro j
  induction j using Nat.strongRecOn with
  | ind j ih =>
    intro p H0 hj hP0 hp
    have hle := kt_s_le tp n p hp
    by_cases hw : kt_is tp n (kt_s tp n p) (kt_wd 14)
    · have hrl := kt_r_le kt_sm tp n (kt_s tp n p) hle.2
      have hr3 : kt_r kt_sm tp n (kt_s tp n p) = 2 := hw.1
      obtain ⟨o1, hM1, hC1, hP1, hT1⟩ := hsub (kt_s tp n p + 2) (by omega) (by omega)
      have hex : ∀ p1 H1, ∃ o, (p < p1 → p1 ≤ n → kor_M (MP lv + 1) n tp p1 lv o ∧ kor_C (CP lv + 1) n tp p1 lv H1 o ∧ kPc n p1 (15 - 2 * lv) H1 o ∧ kTc 4 H1 o) := fun p1 H1 => by
        by_cases c : p < p1 ∧ p1 ≤ n
        · obtain ⟨o, ho⟩ := ih (n - p1) (by omega) p1 H1 rfl (by omega) c.2
          exact ⟨o, fun _ _ => ho⟩
        · exact ⟨.inl (0, 0), fun z1 z2 => absurd ⟨z1, z2⟩ c⟩
      have hrest : ∀ p1 H1, p < p1 → p1 ≤ n → kor_M (MP lv + 1) n tp p1 lv ((fun p1 H1 => Classical.choose (hex p1 H1)) p1 H1) ∧ kor_C (CP lv + 1) n tp p1 lv H1 ((fun p1 H1 => Classical.choose (hex p1 H1)) p1 H1) ∧ kPc n p1 (15 - 2 * lv) H1 ((fun p1 H1 => Classical.choose (hex p1 H1)) p1 H1) ∧ kTc 4 H1 ((fun p1 H1 => Classical.choose (hex p1 H1)) p1 H1) := fun p1 H1 => Classical.choose_spec (hex p1 H1)
      generalize (fun p1 H1 => Classical.choose (hex p1 H1)) = rest at hrest
      refine ⟨kor_o H0 o1 rest, kor_Mstep hp hw hM1 hP1 (fun p1 tk cd H ho => (hrest p1 _ (by have := hP1.2 p1 tk cd H ho; omega) (hP1.2 p1 tk cd H ho).2.1).1) (by unfold MP; omega), kor_Cstep hp (by omega) hw hC1 hP1 (fun p1 tk cd H ho => (hrest p1 _ (by have := hP1.2 p1 tk cd H ho; omega) (hP1.2 p1 tk cd H ho).2.1).2.1) (by unfold CP; omega), ?_, kT_or hT1 (fun p1 tk cd H ho => (hrest p1 _ (by have := hP1.2 p1 tk cd H ho; omega) (hP1.2 p1 tk cd H ho).2.1).2.2.2)⟩
      cases ho : o1 with
      | inl x =>
        refine ⟨fun kd pl e => ?_, fun p' tk cd H e => by cases e⟩
        exact hP1.1 kd pl (ho.trans e)
      | inr x =>
        obtain ⟨p1, tk, cd, H⟩ := x
        have hpp := hP1.2 p1 tk cd H ho
        obtain ⟨-, -, hPc, -⟩ := hrest p1 (fun a b => H0 a b || H a b) (by omega) hpp.2.1
        show kPc n p (15 - 2 * lv) H0 (match rest p1 (fun a b => H0 a b || H a b) with | .inl x => _ | .inr (p2, tk2, cd2, H2) => _)
        cases ho2 : rest p1 (fun a b => H0 a b || H a b) with
        | inl x => exact ⟨fun kd pl e => hPc.1 kd pl (ho2.trans e), fun p' tk cd H e => by cases e⟩
        | inr y =>
          obtain ⟨p2, tk2, cd2, H2⟩ := y
          have hq := hPc.2 p2 tk2 cd2 H2 ho2
          refine ⟨fun kd pl e => (by cases e), fun p' tk' cd' H' e => ?_⟩
          injection e with e
          injection e with a1 a2
          injection a2 with a2 a3
          injection a3 with a3 a4
          subst a1 a2 a3 a4
          refine ⟨by omega, hq.2.1, by simp; omega, by simp; omega, ?_, fun c hc => ?_⟩
          · intro a b sp S ha hb h1 hsp hS
            obtain ⟨S1, x1, v1, k1⟩ := hpp.2.2.2.2.2.1 a b sp S ha hb (by omega)
            have x2 : kv_x1 a b 103 (sp + 1, S1) = some (sp, kh_u S1 (sp - 1) (if (H0 a b || H a b) = true then 1 else 0)) := by
              unfold kv_x1
              rw [if_neg (by decide), if_neg (by decide), if_pos (show 2 ≤ sp + 1 ∧ sp + 1 ≤ 100 by omega)]
              show some (sp + 1 - 1, kh_u S1 (sp + 1 - 2) (kv_c2 103 (S1 (sp + 1 - 2)) (S1 (sp + 1 - 1)))) = _
              rw [show sp + 1 - 1 = sp by omega, show sp + 1 - 2 = sp - 1 by omega, v1, k1 (sp - 1) (by omega), hS]
              cases H0 a b <;> cases H a b <;> rfl
            obtain ⟨S3, x3, v3, k3⟩ := hq.2.2.2.2.1 a b sp (kh_u S1 (sp - 1) (if (H0 a b || H a b) = true then 1 else 0)) ha hb h1 hsp (kh_uS _ _ _)
            refine ⟨S3, ?_, v3, fun j hj => ?_⟩
            · rw [List.append_assoc, kv_xl_ap cd _ _ x1]
              show (match kv_x1 a b 103 (sp + 1, S1) with | some p' => kv_xl a b cd2 p' | none => none) = _
              rw [x2]
              exact x3
            · rw [k3 j hj, kh_uN _ _ (by omega), k1 j (by omega)]
          · simp at hc
            rcases hc with z | z | z
            · rw [z]; unfold kt_vc; omega
            · exact hpp.2.2.2.2.2.2 c z
            · exact hq.2.2.2.2.2 c z
    · refine ⟨.inr (kt_s tp n p, [], [], H0), kor_Mend (d := MP lv + 1 - 2) hp hw |> (fun z => by rw [show MP lv + 1 = MP lv + 1 - 2 + 2 by unfold MP; omega]; exact z), kor_Cend (d := CP lv + 1 - 5) hp (by omega) hw |> (fun z => by rw [show CP lv + 1 = CP lv + 1 - 5 + 5 by unfold CP; omega]; exact z), ⟨fun kd pl e => (by cases e), fun p' tk cd H e => ?_⟩, kTc_r kTk_o0⟩
      injection e with e
      injection e with a1 a2
      injection a2 with a2 a3
      injection a3 with a3 a4
      subst a1 a2 a3 a4
      exact ⟨hle.1, hle.2, by simpa using hle.1, by simpa using hle.1, fun a b sp S _ _ h1 _ hS => ⟨S, by show some (sp, S) = _; rfl, hS, fun _ _ => rfl⟩, fun c hc => by simp at hc⟩

theorem kan_fP {o1 : kO} {rest : Nat → (Nat → Nat → Bool) → kO} (hP : kPd n p (14 - 2 * lv) o1) (hlv : lv ≤ 6) (hR : ∀ p1 tk cd H, o1 = .inr (p1, tk, cd, H) → kPc n p1 (14 - 2 * lv) H (rest p1 H)) : kPd n p (15 - 2 * lv) (kan_f o1 rest) := by
  cases ho : o1 with
  | inl x => exact ⟨fun kd pl e => hP.1 kd pl (ho.trans e), fun p' tk cd H e => by cases e⟩
  | inr x =>
    obtain ⟨p1, tk, cd, H⟩ := x
    have hpp := hP.2 p1 tk cd H ho
    have hPc := hR p1 tk cd H ho
    show kPd n p (15 - 2 * lv) (match rest p1 H with | .inl x => _ | .inr (p2, tk2, cd2, H2) => _)
    cases ho2 : rest p1 H with
    | inl x => exact ⟨fun kd pl e => hPc.1 kd pl (ho2.trans e), fun p' tk cd H e => by cases e⟩
    | inr y =>
      obtain ⟨p2, tk2, cd2, H2⟩ := y
      have hq := hPc.2 p2 tk2 cd2 H2 ho2
      refine ⟨fun kd pl e => (by cases e), fun p' tk' cd' H' e => ?_⟩
      injection e with e
      injection e with a1 a2
      injection a2 with a2 a3
      injection a3 with a3 a4
      subst a1 a2 a3 a4
      refine ⟨by omega, hq.2.1, by simp; omega, by simp; omega, by simp; omega, ?_, fun c hc => ?_⟩
      · intro a b sp S ha hb hsp
        obtain ⟨S1, x1, v1, k1⟩ := hpp.2.2.2.2.2.1 a b sp S ha hb (by omega)
        obtain ⟨S3, x3, v3, k3⟩ := hq.2.2.2.2.1 a b (sp + 1) S1 ha hb (by omega) (by omega) (by rw [Nat.add_sub_cancel]; exact v1)
        rw [Nat.add_sub_cancel] at v3 k3
        exact ⟨S3, by rw [kv_xl_ap cd _ _ x1]; exact x3, v3, fun j hj => by rw [k3 j hj, k1 j hj]⟩
      · simp at hc
        rcases hc with z | z
        · exact hpp.2.2.2.2.2.2 c z
        · exact hq.2.2.2.2.2 c z

theorem kor_fP {o1 : kO} {rest : Nat → (Nat → Nat → Bool) → kO} (hP : kPd n p (15 - 2 * lv) o1) (hlv : lv ≤ 6) (hR : ∀ p1 tk cd H, o1 = .inr (p1, tk, cd, H) → kPc n p1 (15 - 2 * lv) H (rest p1 H)) : kPd n p (16 - 2 * lv) (kor_f o1 rest) := by
  cases ho : o1 with
  | inl x => exact ⟨fun kd pl e => hP.1 kd pl (ho.trans e), fun p' tk cd H e => by cases e⟩
  | inr x =>
    obtain ⟨p1, tk, cd, H⟩ := x
    have hpp := hP.2 p1 tk cd H ho
    have hPc := hR p1 tk cd H ho
    show kPd n p (16 - 2 * lv) (match rest p1 H with | .inl x => _ | .inr (p2, tk2, cd2, H2) => _)
    cases ho2 : rest p1 H with
    | inl x => exact ⟨fun kd pl e => hPc.1 kd pl (ho2.trans e), fun p' tk cd H e => by cases e⟩
    | inr y =>
      obtain ⟨p2, tk2, cd2, H2⟩ := y
      have hq := hPc.2 p2 tk2 cd2 H2 ho2
      refine ⟨fun kd pl e => (by cases e), fun p' tk' cd' H' e => ?_⟩
      injection e with e
      injection e with a1 a2
      injection a2 with a2 a3
      injection a3 with a3 a4
      subst a1 a2 a3 a4
      refine ⟨by omega, hq.2.1, by simp; omega, by simp; omega, by simp; omega, ?_, fun c hc => ?_⟩
      · intro a b sp S ha hb hsp
        obtain ⟨S1, x1, v1, k1⟩ := hpp.2.2.2.2.2.1 a b sp S ha hb (by omega)
        obtain ⟨S3, x3, v3, k3⟩ := hq.2.2.2.2.1 a b (sp + 1) S1 ha hb (by omega) (by omega) (by rw [Nat.add_sub_cancel]; exact v1)
        rw [Nat.add_sub_cancel] at v3 k3
        exact ⟨S3, by rw [kv_xl_ap cd _ _ x1]; exact x3, v3, fun j hj => by rw [k3 j hj, k1 j hj]⟩
      · simp at hc
        rcases hc with z | z
        · exact hpp.2.2.2.2.2.2 c z
        · exact hq.2.2.2.2.2 c z

def kSp (n : Nat) (tp : Nat → Int32) (p lv : Nat) : Prop := ∃ o, kMd (MP lv) 180 n tp p lv o ∧ kCd (CP lv) 4 n tp p lv lv (lv + 1) (lv + 1) (23 + lv) o ∧ kPd n p (14 - 2 * lv) o ∧ kTd 0 o
def kSa (n : Nat) (tp : Nat → Int32) (p lv : Nat) : Prop := ∃ o, kMd (MP lv + 1) 179 n tp p lv o ∧ kCd (CP lv + 1) 3 n tp p lv lv lv (lv + 1) (15 + lv) o ∧ kPd n p (15 - 2 * lv) o ∧ kTd 1 o
def kSo (n : Nat) (tp : Nat → Int32) (p lv : Nat) : Prop := ∃ o, kMd (MP lv + 2) 178 n tp p lv o ∧ kCd (CP lv + 2) 2 n tp p lv lv lv lv (31 + lv) o ∧ kPd n p (16 - 2 * lv) o ∧ kTd 2 o
theorem kt_br_P {o1 : kO} {q D : Nat} (hq : q < n) (h : kPd n (q + 1) D o1) (hpq : p ≤ q) : kPd n p D (kt_br tp n o1) := by
  cases ho : o1 with
  | inl x => exact ⟨fun kd pl e => h.1 kd pl (ho.trans e), fun p' tk cd H e => by cases e⟩
  | inr x =>
    obtain ⟨p1, tk, cd, H⟩ := x
    have hpp := h.2 p1 tk cd H ho
    have hle := kt_s_le tp n p1 hpp.2.1
    show kPd n p D (if _ then _ else _)
    by_cases c : kt_s tp n p1 < n ∧ tp (kt_s tp n p1) = 93
    · rw [if_pos c]
      refine ⟨fun kd pl e => (by cases e), fun p' tk' cd' H' e => ?_⟩
      injection e with e
      injection e with a1 a2
      injection a2 with a2 a3
      injection a3 with a3 a4
      subst a1 a2 a3 a4
      refine ⟨by omega, by omega, by simp; omega, by omega, by simp, hpp.2.2.2.2.2.1, fun c hc => ?_⟩
      simp at hc
      rcases hc with z | z | z
      · rw [z]; unfold kt_vc; omega
      · exact hpp.2.2.2.2.2.2 c z
      · rw [z]; unfold kt_vc; omega
    · rw [if_neg c]
      refine ⟨fun kd pl e => ?_, fun p' tk cd H e => by cases e⟩
      injection e with e
      injection e with e1 e2
      omega
theorem kt_nt_P {o1 : kO} {q D : Nat} (h : kPd n (q + 3) D o1) (hpq : p ≤ q) (hD : 1 ≤ D) : kPd n p D (kt_nt o1) := by
  cases ho : o1 with
  | inl x => exact ⟨fun kd pl e => h.1 kd pl (ho.trans e), fun p' tk cd H e => by cases e⟩
  | inr x =>
    obtain ⟨p1, tk, cd, H⟩ := x
    have hpp := h.2 p1 tk cd H ho
    refine ⟨fun kd pl e => (by cases e), fun p' tk' cd' H' e => ?_⟩
    injection e with e
    injection e with a1 a2
    injection a2 with a2 a3
    injection a3 with a3 a4
    subst a1 a2 a3 a4
    refine ⟨by omega, hpp.2.1, by simp; omega, by simp; omega, by simp, ?_, fun c hc => ?_⟩
    · intro a b sp S ha hb hsp
      obtain ⟨S1, x1, v1, k1⟩ := hpp.2.2.2.2.2.1 a b sp S ha hb hsp
      refine ⟨kh_u S1 sp (1 - S1 sp), ?_, ?_, fun j hj => by rw [kh_uN _ _ (by omega), k1 j hj]⟩
      · rw [kv_xl_ap cd _ _ x1]
        show (match kv_x1 a b 105 (sp + 1, S1) with | some p' => kv_xl a b [] p' | none => none) = _
        rw [show kv_x1 a b 105 (sp + 1, S1) = some (sp + 1, kh_u S1 sp (1 - S1 sp)) by
          unfold kv_x1
          rw [if_neg (by decide), if_pos rfl, if_pos (show 1 ≤ sp + 1 ∧ sp + 1 ≤ 100 by omega)]
          rfl]
        rfl
      · rw [kh_uS, v1]
        show (1 - if H a b = true then (1 : Int32) else 0) = if (!H a b) = true then 1 else 0
        cases H a b <;> rfl
    · simp at hc
      rcases hc with z | z
      · rw [z]; unfold kt_vc; omega
      · exact hpp.2.2.2.2.2.2 c z
theorem kS_part (hn : n ≤ 200) (hp : p ≤ n) (hlv : lv ≤ 6) (ih : ∀ p', p < p' → p' ≤ n → ∀ lv, lv ≤ 6 → kSp n tp p' lv ∧ kSo n tp p' lv) : kSp n tp p lv := by
  have hle := kt_s_le tp n p hp
  by_cases hc : kt_s tp n p < n ∧ tp (kt_s tp n p) = 91
  · by_cases h6 : lv = 6
    · subst h6
      refine ⟨.inl (3, kt_s tp n p), kM_A6 (d := 9) hp hc.1 hc.2, kC_A6 (d := 11) hp hc.1 hc.2, ⟨fun kd pl e => ?_, fun p' tk cd H e => by cases e⟩, kTd_l⟩
      injection e with e
      injection e with e1 e2
      omega
    · obtain ⟨o1, hM, hC, hP, hT⟩ := (ih (kt_s tp n p + 1) (by omega) (by omega) (lv + 1) (by omega)).2
      exact ⟨kt_br tp n o1, (kM_A hp hc.1 hc.2 (by omega) hM hP (by unfold MP; omega)).le (by unfold MP; omega), (kC_A hp hc.1 hc.2 (by omega) hC hP (by unfold CP; omega)).le (by unfold CP; omega), (kt_br_P hc.1 hP hle.1).le (Nat.le_refl _) (by omega), kT_br hT⟩
  · by_cases hw : kt_is tp n (kt_s tp n p) (kt_wd 16)
    · have hrl := kt_r_le kt_sm tp n (kt_s tp n p) hle.2
      have hr3 : kt_r kt_sm tp n (kt_s tp n p) = 3 := hw.1
      by_cases h6 : lv = 6
      · subst h6
        refine ⟨.inl (3, kt_s tp n p), kM_B6 (d := 9) hp hc hw, kC_B6 (d := 11) hp hw, ⟨fun kd pl e => ?_, fun p' tk cd H e => by cases e⟩, kTd_l⟩
        injection e with e
        injection e with e1 e2
        omega
      · obtain ⟨o1, hM, hC, hP, hT⟩ := (ih (kt_s tp n p + 3) (by omega) (by omega) (lv + 1) (by omega)).1
        exact ⟨kt_nt o1, (kM_B hp hc hw (by omega) hM hP (by unfold MP; omega)).le (by unfold MP; omega), (kC_B hp hw (by omega) hC (by unfold CP; omega)).le (by unfold CP; omega), (kt_nt_P hP hle.1 (by omega)).le (Nat.le_refl _) (by omega), kT_nt hT⟩
    · refine ⟨kt_cmp tp n (kt_s tp n p), (kM_C (d := 5) hp hc hw).le (by unfold MP; omega), (kC_C (d := 4) hp hc hw (by omega)).le (by unfold CP; omega), (kt_cmp_pd hle.2).le hle.1 (by omega), kT_cmp hle.2⟩
theorem kS_chain (hn : n ≤ 200) (hp : p ≤ n) (hlv : lv ≤ 6) (ih : ∀ p', p < p' → p' ≤ n → ∀ lv, lv ≤ 6 → kSp n tp p' lv ∧ kSa n tp p' lv) (h0 : kSp n tp p lv) : kSa n tp p lv := by
  obtain ⟨o1, hM, hC, hP, hT⟩ := h0
  have hall := kan_all (tp := tp) hn hlv p (fun p' h1 h2 => (ih p' h1 h2 lv hlv).1)
  have hex : ∀ p1 H1, ∃ o, (p < p1 → p1 ≤ n → kan_M (MP lv + 0) n tp p1 lv o ∧ kan_C (CP lv + 0) n tp p1 lv H1 o ∧ kPc n p1 (14 - 2 * lv) H1 o ∧ kTc 3 H1 o) := fun p1 H1 => by
    by_cases c : p < p1 ∧ p1 ≤ n
    · obtain ⟨o, ho⟩ := hall _ p1 H1 rfl c.1 c.2
      exact ⟨o, fun _ _ => ho⟩
    · exact ⟨.inl (0, 0), fun z1 z2 => absurd ⟨z1, z2⟩ c⟩
  have hr : ∀ p1 H1, p < p1 → p1 ≤ n → kan_M (MP lv + 0) n tp p1 lv ((fun p1 H1 => Classical.choose (hex p1 H1)) p1 H1) ∧ kan_C (CP lv + 0) n tp p1 lv H1 ((fun p1 H1 => Classical.choose (hex p1 H1)) p1 H1) ∧ kPc n p1 (14 - 2 * lv) H1 ((fun p1 H1 => Classical.choose (hex p1 H1)) p1 H1) ∧ kTc 3 H1 ((fun p1 H1 => Classical.choose (hex p1 H1)) p1 H1) := fun p1 H1 => Classical.choose_spec (hex p1 H1)
  generalize (fun p1 H1 => Classical.choose (hex p1 H1)) = rest at hr
  exact ⟨kan_f o1 rest, kan_Mfirst hM hP hn (fun p1 tk cd H ho => (hr p1 H (hP.2 p1 tk cd H ho).1 (hP.2 p1 tk cd H ho).2.1).1) (by unfold MP; omega), kan_Cfirst (by omega) hC hP (fun p1 tk cd H ho => (hr p1 H (hP.2 p1 tk cd H ho).1 (hP.2 p1 tk cd H ho).2.1).2.1), kan_fP hP hlv (fun p1 tk cd H ho => (hr p1 H (hP.2 p1 tk cd H ho).1 (hP.2 p1 tk cd H ho).2.1).2.2.1), kT_anf hT (fun p1 tk cd H ho => (hr p1 H (hP.2 p1 tk cd H ho).1 (hP.2 p1 tk cd H ho).2.1).2.2.2)⟩
theorem kS_any (hn : n ≤ 200) (hp : p ≤ n) (hlv : lv ≤ 6) (ih : ∀ p', p < p' → p' ≤ n → ∀ lv, lv ≤ 6 → kSa n tp p' lv) (h0 : kSa n tp p lv) : kSo n tp p lv := by
  obtain ⟨o1, hM, hC, hP, hT⟩ := h0
  have hall := kor_all (tp := tp) hn hlv p (fun p' h1 h2 => ih p' h1 h2 lv hlv)
  have hex : ∀ p1 H1, ∃ o, (p < p1 → p1 ≤ n → kor_M (MP lv + 1) n tp p1 lv o ∧ kor_C (CP lv + 1) n tp p1 lv H1 o ∧ kPc n p1 (15 - 2 * lv) H1 o ∧ kTc 4 H1 o) := fun p1 H1 => by
    by_cases c : p < p1 ∧ p1 ≤ n
    · obtain ⟨o, ho⟩ := hall _ p1 H1 rfl c.1 c.2
      exact ⟨o, fun _ _ => ho⟩
    · exact ⟨.inl (0, 0), fun z1 z2 => absurd ⟨z1, z2⟩ c⟩
  have hr : ∀ p1 H1, p < p1 → p1 ≤ n → kor_M (MP lv + 1) n tp p1 lv ((fun p1 H1 => Classical.choose (hex p1 H1)) p1 H1) ∧ kor_C (CP lv + 1) n tp p1 lv H1 ((fun p1 H1 => Classical.choose (hex p1 H1)) p1 H1) ∧ kPc n p1 (15 - 2 * lv) H1 ((fun p1 H1 => Classical.choose (hex p1 H1)) p1 H1) ∧ kTc 4 H1 ((fun p1 H1 => Classical.choose (hex p1 H1)) p1 H1) := fun p1 H1 => Classical.choose_spec (hex p1 H1)
  generalize (fun p1 H1 => Classical.choose (hex p1 H1)) = rest at hr
  exact ⟨kor_f o1 rest, kor_Mfirst hM hP hn (fun p1 tk cd H ho => (hr p1 H (hP.2 p1 tk cd H ho).1 (hP.2 p1 tk cd H ho).2.1).1) (by unfold MP; omega), kor_Cfirst (by omega) hC hP (fun p1 tk cd H ho => (hr p1 H (hP.2 p1 tk cd H ho).1 (hP.2 p1 tk cd H ho).2.1).2.1), kor_fP hP hlv (fun p1 tk cd H ho => (hr p1 H (hP.2 p1 tk cd H ho).1 (hP.2 p1 tk cd H ho).2.1).2.2.1), kT_orf hT (fun p1 tk cd H ho => (hr p1 H (hP.2 p1 tk cd H ho).1 (hP.2 p1 tk cd H ho).2.1).2.2.2)⟩
/-- EVERY CONDITION IS READ ALIKE -/
theorem kS_all (hn : n ≤ 200) : ∀ j p, n - p = j → p ≤ n → ∀ lv, lv ≤ 6 → kSp n tp p lv ∧ kSa n tp p lv ∧ kSo n tp p lv := by
  intro j
  induction j using Nat.strongRecOn with
  | ind j ih =>
    intro p hj hp lv hlv
    have ih' : ∀ p', p < p' → p' ≤ n → ∀ lv, lv ≤ 6 → kSp n tp p' lv ∧ kSa n tp p' lv ∧ kSo n tp p' lv := fun p' h1 h2 => ih (n - p') (by omega) p' rfl h2
    have hp1 := kS_part hn hp hlv (fun p' h1 h2 lv hl => ⟨(ih' p' h1 h2 lv hl).1, (ih' p' h1 h2 lv hl).2.2⟩)
    have hp2 := kS_chain hn hp hlv (fun p' h1 h2 lv hl => ⟨(ih' p' h1 h2 lv hl).1, (ih' p' h1 h2 lv hl).2.1⟩) hp1
    exact ⟨hp1, hp2, kS_any hn hp hlv (fun p' h1 h2 lv hl => (ih' p' h1 h2 lv hl).2.1) hp2⟩
end C13
