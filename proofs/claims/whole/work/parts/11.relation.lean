/-- what is fixed over the whole run: the law's start, class and slot numbers, array classes, where the statics lie, one reference of the JDK's, the script -/
abbrev ka_G : Type := State × va_G × (Nat → ClassId) × (Nat → Nat) × Value × Nat × (Nat → Int32)
abbrev ka_b (G : ka_G) : Nat := G.1.heap.size
def ka_ad (G : ka_G) (a : Nat) : Nat := if a < 1000000 then ka_b G + (a - 1) else G.2.2.2.1 (a - 1000000)
def ka_cv (G : ka_G) : Value → Value
  | .ref a => if a = 0 then .null else .ref (ka_ad G a)
  | .float _ => G.2.2.2.2.1
  | v => v
def ka_fv (G : ka_G) (h : ka_H) (ci a k : Nat) : Value := if ka_isr (ka_ty ci k) = true then ka_cv G (.ref (ka_P h a k)) else .int (ka_I h a k)
-- the statics: constants of Op, its words, their bytes, the array of all, the switch's map, the script
def ka_words : List (List Int32) := [[116], [102, 108, 105, 112], [111, 110, 101], [99, 111, 117, 110, 116], [115, 117, 109], [108, 101, 97, 115, 116], [109, 105, 100, 100, 108, 101], [109, 111, 115, 116], [108, 111, 111, 112], [106, 111, 105, 110], [97, 100, 100], [108, 101, 115, 115], [98, 111, 116, 104], [119, 104, 101, 114, 101], [111, 114], [97, 110, 100], [110, 111, 116], [97], [98]]
def ka_opnd : List Int32 := [0, 1, 1, 1, 1, 1, 1, 1, 1, 2, 2, 2, 2, 1]
def ka_swm : List Int32 := [0, 1, 2, 9, 10, 11, 12, 0, 4, 5, 6, 7, 8, 3]
def ka_sK (G : ka_G) (i : Nat) : Nat × Nat := if i < 14 then (20, 3) else if i < 20 then (99, 0) else if i < 39 then (21, 2) else if i < 60 then (99, 0) else if i < 79 then (33, (ka_words.getD (i - 60) []).length) else if i < 90 then (99, 0) else if i = 90 then (38, 14) else if i = 91 then (40, 14) else if i = 92 then (40, G.2.2.2.2.2.1) else (99, 0)
def ka_sIn (G : ka_G) (i j : Nat) : Int32 := if i < 14 then (if j = 0 then Int32.ofNat i else if j = 2 then ka_opnd.getD i 0 else 0) else if i < 60 then 0 else if i < 79 then (ka_words.getD (i - 60) []).getD j 0 else if i = 91 then ka_swm.getD j 0 else if i = 92 then G.2.2.2.2.2.2 j else 0
def ka_sRf (i j : Nat) : Nat := if i < 14 then (if j = 1 then 1000020 + i else 0) else if i < 20 then 0 else if i < 39 then (if j = 0 then 1000040 + i else 0) else if i = 90 then 1000000 + j else 0
/-- a made cell -/
def ka_cell (G : ka_G) (h : ka_H) (a : Nat) (H : Heap) : Prop :=
  ((ka_K h a).1 < 10 → t_OB (ka_ad G a) (G.2.1.1 (ka_K h a).1) (ka_T (ka_K h a).1).2.2 (G.2.1.2 (ka_K h a).1) H (ka_fv G h (ka_K h a).1 a)) ∧
  ((ka_K h a).1 = 30 ∨ (ka_K h a).1 = 31 → H[ka_ad G a]? = some (arrV (G.2.2.1 (ka_K h a).1) (ka_K h a).2 (fun j => .int (ka_I h a j)))) ∧
  ((ka_K h a).1 = 32 → H[ka_ad G a]? = some (arrV (G.2.2.1 (ka_K h a).1) (ka_K h a).2 (fun j => .long (ka_J h a j)))) ∧
  (34 ≤ (ka_K h a).1 ∧ (ka_K h a).1 ≤ 37 → H[ka_ad G a]? = some (arrV (G.2.2.1 (ka_K h a).1) (ka_K h a).2 (fun j => ka_cv G (.ref (ka_P h a j))))) ∧
  (50 ≤ (ka_K h a).1 ∧ (ka_K h a).1 < 54 → ∃ ce : Cell, H[ka_ad G a]? = some ce ∧ ce.vm = .none ∧ G.1.vm.findClass (ka_en ((ka_K h a).1 - 50)) = some ce.cls) ∧
  ((ka_K h a).1 < 10 ∨ (ka_K h a).1 = 30 ∨ (ka_K h a).1 = 31 ∨ (ka_K h a).1 = 32 ∨ (34 ≤ (ka_K h a).1 ∧ (ka_K h a).1 ≤ 37) ∨ (50 ≤ (ka_K h a).1 ∧ (ka_K h a).1 < 54))
def ka_rel (G : ka_G) (h : ka_H) (H : Heap) : Prop :=
  H.size + 1 = ka_b G + h.1 ∧ 1 ≤ h.1 ∧ h.1 ≤ 1000000 ∧ (∀ q : Nat, q < ka_b G → H[q]? = G.1.heap[q]?) ∧ (∀ a, 1 ≤ a → a < h.1 → ka_cell G h a H) ∧ (∀ a, (a = 0 ∨ h.1 ≤ a ∧ a < 1000000) → (ka_K h a).1 = 99) ∧
  (∀ i, ka_K h (1000000 + i) = ka_sK G i ∧ ∀ j, ka_I h (1000000 + i) j = ka_sIn G i j ∧ ka_P h (1000000 + i) j = ka_sRf i j)
theorem ka_ad_own {G : ka_G} {a : Nat} (h : a < 1000000) : ka_ad G a = ka_b G + (a - 1) := if_pos h
theorem ka_ad_ne {G : ka_G} {a b : Nat} (ha : a < 1000000) (hb : b < 1000000) (h1 : 1 ≤ a) (h2 : 1 ≤ b) (h : a ≠ b) : ka_ad G a ≠ ka_ad G b := by
  rw [ka_ad_own ha, ka_ad_own hb]; omega
theorem ka_cell_congr {G : ka_G} {h h' : ka_H} {a : Nat} {H H' : Heap} (hc : ka_cell G h a H) (hK : ka_K h' a = ka_K h a) (hI : ∀ j, ka_I h' a j = ka_I h a j) (hP : ∀ j, ka_P h' a j = ka_P h a j) (hJ : ∀ j, ka_J h' a j = ka_J h a j) (hH : H'[ka_ad G a]? = H[ka_ad G a]?) : ka_cell G h' a H' := by
  obtain ⟨c1, c2, c3, c4, c5, c6⟩ := hc
  have e1 : ka_fv G h' (ka_K h a).1 a = ka_fv G h (ka_K h a).1 a := by
    funext k; unfold ka_fv; rw [hI, hP]
  unfold ka_cell
  rw [hK, e1, hH]
  have e2 : (fun j => Value.int (ka_I h' a j)) = fun j => Value.int (ka_I h a j) := by funext j; rw [hI]
  have e3 : (fun j => Value.long (ka_J h' a j)) = fun j => Value.long (ka_J h a j) := by funext j; rw [hJ]
  have e4 : (fun j => ka_cv G (.ref (ka_P h' a j))) = fun j => ka_cv G (.ref (ka_P h a j)) := by funext j; rw [hP]
  rw [e2, e3, e4]
  exact ⟨fun q => (c1 q).kept hH, c2, c3, c4, c5, c6⟩
/-- one cell is written -/
theorem ka_upd {G : ka_G} {h h' : ka_H} {H H' : Heap} {a : Nat} (hr : ka_rel G h H) (hn : h'.1 = h.1) (hK : ∀ b, ka_K h' b = ka_K h b) (ha1 : 1 ≤ a) (ha2 : a < h.1) (hI : ∀ b, b ≠ a → ∀ j, ka_I h' b j = ka_I h b j) (hP : ∀ b, b ≠ a → ∀ j, ka_P h' b j = ka_P h b j) (hJ : ∀ b, b ≠ a → ∀ j, ka_J h' b j = ka_J h b j)
    (hs : H'.size = H.size) (ho : ∀ q, q ≠ ka_ad G a → H'[q]? = H[q]?) (hc : ka_cell G h' a H') : ka_rel G h' H' := by
  obtain ⟨r1, r2, r3, r4, r5, r6, r7⟩ := hr
  have ea : ka_ad G a = ka_b G + (a - 1) := ka_ad_own (by omega)
  refine ⟨by rw [hs, hn]; exact r1, by rw [hn]; exact r2, by rw [hn]; exact r3, fun q hq => ?_, fun b h1 h2 => ?_, fun b hb => by rw [hK]; rw [hn] at hb; exact r6 b hb, fun i => ?_⟩
  · rw [ho q (by omega)]; exact r4 q hq
  · by_cases e : b = a
    · rw [e]; exact hc
    · rw [hn] at h2
      exact ka_cell_congr (r5 b h1 h2) (hK b) (hI b e) (hP b e) (hJ b e) (ho _ (ka_ad_ne (by omega) (by omega) h1 ha1 e))
  · have e : 1000000 + i ≠ a := by omega
    rw [hK]
    refine ⟨(r7 i).1, fun j => ?_⟩
    rw [hI _ e, hP _ e]
    exact (r7 i).2 j
/-- one cell is made -/
theorem ka_push {G : ka_G} {h h' : ka_H} {H H' : Heap} (hr : ka_rel G h H) (hn : h'.1 = h.1 + 1) (hlt : h.1 < 1000000) (hK : ∀ b, b ≠ h.1 → ka_K h' b = ka_K h b) (hI : ∀ b, b ≠ h.1 → ∀ j, ka_I h' b j = ka_I h b j) (hP : ∀ b, b ≠ h.1 → ∀ j, ka_P h' b j = ka_P h b j) (hJ : ∀ b, b ≠ h.1 → ∀ j, ka_J h' b j = ka_J h b j)
    (hs : H'.size = H.size + 1) (ho : ∀ q, q < H.size → H'[q]? = H[q]?) (hc : ka_cell G h' h.1 H') : ka_rel G h' H' := by
  obtain ⟨r1, r2, r3, r4, r5, r6, r7⟩ := hr
  refine ⟨by rw [hs, hn]; omega, by rw [hn]; omega, by rw [hn]; omega, fun q hq => ?_, fun b h1 h2 => ?_, fun b hb => ?_, fun i => ?_⟩
  · rw [ho q (by omega)]; exact r4 q hq
  · by_cases e : b = h.1
    · rw [e]; exact hc
    · rw [hn] at h2
      exact ka_cell_congr (r5 b h1 (by omega)) (hK b e) (hI b e) (hP b e) (hJ b e) (ho _ (by rw [ka_ad_own (by omega)]; omega))
  · rw [hn] at hb
    rw [hK b (by omega)]
    exact r6 b (by omega)
  · have e : 1000000 + i ≠ h.1 := by omega
    rw [hK _ e]
    refine ⟨(r7 i).1, fun j => ?_⟩
    rw [hI _ e, hP _ e]
    exact (r7 i).2 j
theorem ka_ad_new {G : ka_G} {h : ka_H} {H : Heap} (hr : ka_rel G h H) (hlt : h.1 < 1000000) : ka_ad G h.1 = H.size := by
  rw [ka_ad_own hlt]; have := hr.1; have := hr.2.1; omega
/-- a kind that is one tells that the cell is there -/
theorem ka_ow {G : ka_G} {h : ka_H} {H : Heap} {a : Nat} (hr : ka_rel G h H) (hk : (ka_K h a).1 < 20 ∨ (ka_K h a).1 = 30 ∨ (ka_K h a).1 = 31 ∨ (ka_K h a).1 = 32 ∨ (34 ≤ (ka_K h a).1 ∧ (ka_K h a).1 ≤ 37)) : 1 ≤ a ∧ a < h.1 := by
  obtain ⟨r1, r2, r3, r4, r5, r6, r7⟩ := hr
  refine Classical.byContradiction fun hn => ?_
  by_cases h1 : a < 1000000
  · have := r6 a (by omega)
    omega
  · obtain ⟨i, rfl⟩ : ∃ i, a = 1000000 + i := ⟨a - 1000000, by omega⟩
    have h2 := (r7 i).1
    rw [h2] at hk
    unfold ka_sK at hk
    repeat' split at hk
    all_goals simp at hk
    all_goals omega
