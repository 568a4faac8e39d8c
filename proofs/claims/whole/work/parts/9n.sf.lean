/-! ===== shelves of the class stand ===== -/
theorem kSf.st {h h' : ka_H} {sb sb' : Nat → Nat} {b num : Nat} {ky : kKey} {H : Nat → Nat → Bool} {tb : Int32} (q : kSf h sb b num ky H tb) (hn : h.1 ≤ h'.1) (hK : ∀ a, a < h.1 → ka_K h' a = ka_K h a) (hP : ka_P h' b = ka_P h b) (hI : ∀ k, k = 0 ∨ k = 2 ∨ k = 7 → ka_I h' b k = ka_I h b k) (h1 : ka_I h' (b + 1) = ka_I h (b + 1)) (h4 : ka_I h' (b + 4) = ka_I h (b + 4)) (e5 : ks_r sb' ky.2.2.1 = ks_r sb ky.2.2.1) (e6 : ks_r sb' ky.2.2.2.1 = ks_r sb ky.2.2.2.1) : kSf h' sb' b num ky H tb := by
  obtain ⟨⟨a1, a2⟩, ⟨b1, b2, b3, b4, b5⟩, ⟨c1, c2, c3, c4, c5, c6, c7⟩, ⟨d1, d2, d3⟩, f1, f2⟩ := q
  unfold kSf
  rw [hP, h1, h4, hI 0 (Or.inl rfl), hI 2 (Or.inr (Or.inl rfl)), hI 7 (Or.inr (Or.inr rfl)), hK b (by omega), hK (b + 1) (by omega), hK (b + 2) (by omega), hK (b + 3) (by omega), hK (b + 4) (by omega), e5, e6]
  exact ⟨⟨a1, by omega⟩, ⟨b1, b2, b3, b4, b5⟩, ⟨c1, c2, c3, c4, c5, c6, c7⟩, ⟨d1, d2, d3⟩, f1, f2⟩
/-- a node that is put leaves every shelf what it is -/
theorem kSf.pu {h : ka_H} {sb : Nat → Nat} {b num qb i s : Nat} {be : Int32} {r : Bool} {ky : kKey} {H : Nat → Nat → Bool} {tb : Int32} (q : kSf h sb b num ky H tb) (hd : b + 5 ≤ qb ∨ qb + 4 ≤ b) (hs : s = b ∨ s + 5 ≤ b ∨ b + 5 ≤ s) : kSf (kPu h qb i s be r) sb b num ky H tb := by
  have oth : ∀ a, a ≠ s → a ≠ qb + 2 → a ≠ qb + 3 → ka_I (kPu h qb i s be r) a = ka_I h a := fun a a1 a2 a3 => funext fun j => (ka_uN _ _ _ _ a1 j).trans ((ka_uN _ _ _ _ a2 j).trans (ka_uN _ _ _ _ a3 j))
  refine q.st (Nat.le_refl _) (fun _ _ => rfl) (funext fun j => ka_uN _ _ _ _ (by omega) j) (fun k hk => ?_) (oth _ (by omega) (by omega) (by omega)) (oth _ (by omega) (by omega) (by omega)) rfl rfl
  by_cases c : b = s
  · rw [← c]
    exact (ka_uJ _ b 11 _ b (by omega)).trans ((ka_uN _ _ _ _ (by omega) k).trans (ka_uN _ _ _ _ (by omega) k))
  · exact congrFun (oth b c (by omega) (by omega)) k
