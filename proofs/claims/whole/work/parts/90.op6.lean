/-! ===== operators: the class's draft ===== -/
/-- an operator of the draft, its signs below SC -/
def kCn (s : Nat → Nat → Int32) (w : Nat → Nat) (k : Nat) (x : kN) (SC : Nat) : Prop := w (39 + 2 * k) = 1000000 + x.1 ∧ s (39 + 2 * k) 1 = (if x.1 = 0 then nI x.2.1 else -1) ∧ s (39 + 2 * k) 2 = nI x.2.2.2.2.1 ∧ s (39 + 2 * k) 3 = (if x.1 = 0 then -1 else nI x.2.2.1) ∧ s (39 + 2 * k) 4 = (if 9 ≤ x.1 ∧ x.1 ≤ 12 then nI x.2.2.2.1 else -1) ∧ (∃ sb, s (39 + 2 * k) 5 = nI sb ∧ s (39 + 2 * k) 6 = nI (sb + x.2.2.2.2.2.1.length) ∧ sb + x.2.2.2.2.2.1.length ≤ SC ∧ ∀ j, j < x.2.2.2.2.2.1.length → s 38 (sb + j) = nI (x.2.2.2.2.2.1.getD j 0)) ∧ (x.1 = 13 → ∀ a b, a < 16 → b < 16 → bt (s (40 + 2 * k) a) b = x.2.2.2.2.2.2.2 a b)
def kCfr (en sc : Nat) (s : Nat → Nat → Int32) (w : Nat → Nat) (s' : Nat → Nat → Int32) (w' : Nat → Nat) : Prop := (∀ k, k < en → w' (39 + 2 * k) = w (39 + 2 * k) ∧ s' (39 + 2 * k) = s (39 + 2 * k) ∧ s' (40 + 2 * k) = s (40 + 2 * k)) ∧ ∀ j, j < sc → s' 38 j = s 38 j
theorem kCfr.rfl' {en sc : Nat} {s : Nat → Nat → Int32} {w : Nat → Nat} : kCfr en sc s w s w := ⟨fun _ _ => ⟨rfl, rfl, rfl⟩, fun _ _ => rfl⟩
theorem kCfr.tr {en sc en1 sc1 : Nat} {s s1 s2 : Nat → Nat → Int32} {w w1 w2 : Nat → Nat} (h1 : kCfr en sc s w s1 w1) (h2 : kCfr en1 sc1 s1 w1 s2 w2) (he : en ≤ en1) (hs : sc ≤ sc1) : kCfr en sc s w s2 w2 := ⟨fun k hk => ⟨(h2.1 k (by omega)).1.trans (h1.1 k hk).1, (h2.1 k (by omega)).2.1.trans (h1.1 k hk).2.1, (h2.1 k (by omega)).2.2.trans (h1.1 k hk).2.2⟩, fun j hj => (h2.2 j (by omega)).trans (h1.2 j hj)⟩
theorem kCn.cg {en sc SC : Nat} {s s' : Nat → Nat → Int32} {w w' : Nat → Nat} {k : Nat} {x : kN} (h : kCn s w k x sc) (hf : kCfr en sc s w s' w') (hk : k < en) (hS : sc ≤ SC) : kCn s' w' k x SC := by
  obtain ⟨h1, h2, h3, h4, h5, ⟨sb, h6, h7, h8, h9⟩, h10⟩ := h
  obtain ⟨f1, f2, f3⟩ := hf.1 k hk
  unfold kCn
  rw [f1, f2, f3]
  exact ⟨h1, h2, h3, h4, h5, ⟨sb, h6, h7, by omega, fun j hj => (hf.2 _ (by omega)).trans (h9 j hj)⟩, h10⟩
def kCok (en sc : Nat) (s : Nat → Nat → Int32) (w : Nat → Nat) (s' : Nat → Nat → Int32) (w' : Nat → Nat) (p' bg : Nat) (nds : List kN) (sc' : Nat) : Prop := kCfr en sc s w s' w' ∧ s' 9 2 = nI p' ∧ (s' 9 3 = s 9 3 ∧ s' 9 4 = s 9 4) ∧ s' 11 3 = nI (bg + nds.length) ∧ s' 11 4 = nI (en + nds.length) ∧ s' 13 5 = nI sc' ∧ (sc ≤ sc' ∧ sc' ≤ p') ∧ ∀ j x, nds[j]? = some x → kCn s' w' (en + j) x sc'
/-- the class reads an operator so -/
def kXC (D n : Nat) (tp : Nat → Int32) (p bg en : Nat) (o : kX) : Prop := ∀ (g : Nat × (Nat → Int32)) (h : ka_H) (s : Nat → Nat → Int32) (w : Nat → Nat) (sc : Nat) (R : ka_R → ka_H → Prop), kf g h → kU h n tp → s 9 2 = nI p → s 11 3 = nI bg → s 11 4 = nI en → s 13 5 = nI sc → sc ≤ p →
  (∀ kd pl s' w', o = .inl (kd, pl) → s' 9 3 = nI kd → s' 9 4 = nI pl → R (kp_ri 0) (kcs h s' w')) → (∀ p' nds s' w' sc', o = .inr (p', nds) → kCok en sc s w s' w' p' bg nds sc' → R (kp_ri 1) (kcs h s' w')) → kp_T D 20 [.ref 11] (kcs h s w) R
theorem kXC.le {D D' n p bg en : Nat} {tp : Nat → Int32} {o : kX} (h : kXC D n tp p bg en o) (hD : D ≤ D') : kXC D' n tp p bg en o := fun g h' s w sc R a b c d e f i j k => (h g h' s w sc R a b c d e f i j k).le hD
theorem kCok.tr {en sc bg p1 p2 sc1 sc2 : Nat} {s s1 s2 : Nat → Nat → Int32} {w w1 w2 : Nat → Nat} {nds1 nds2 : List kN} (h1 : kCok en sc s w s1 w1 p1 bg nds1 sc1) (h2 : kCok (en + nds1.length) sc1 s1 w1 s2 w2 p2 (bg + nds1.length) nds2 sc2) : kCok en sc s w s2 w2 p2 bg (nds1 ++ nds2) sc2 := by
  obtain ⟨a1, a2, a3, a4, a5, a6, a7, a8⟩ := h1
  obtain ⟨b1, b2, b3, b4, b5, b6, b7, b8⟩ := h2
  refine ⟨a1.tr b1 (by omega) a7.1, b2, ⟨b3.1.trans a3.1, b3.2.trans a3.2⟩, by rw [b4, List.length_append, Nat.add_assoc], by rw [b5, List.length_append, Nat.add_assoc], b6, ⟨by omega, b7.2⟩, fun j y hy => ?_⟩
  rcases Nat.lt_or_ge j nds1.length with c | c
  · rw [List.getElem?_append_left c] at hy
    exact (a8 j y hy).cg b1 (by omega) b7.1
  · rw [List.getElem?_append_right c] at hy
    have := b8 _ _ hy
    rw [show en + nds1.length + (j - nds1.length) = en + j by omega] at this
    exact this
def kw_u (w : Nat → Nat) (c v : Nat) : Nat → Nat := fun a => if a = c then v else w a
theorem kcs_sP {h : ka_H} {s : Nat → Nat → Int32} {w : Nat → Nat} {c v : Nat} (h1 : 39 ≤ c) (h2 : c ≤ 61) : ka_sP (kcs h s w) c 0 v = kcs h s (kw_u w c v) := by
  refine Prod.ext rfl (Prod.ext rfl (Prod.ext rfl (Prod.ext rfl (Prod.ext ?_ rfl))))
  funext b f
  show ka_u (fun a f => cond (pq a f) (w a) (h.2.2.2.2.1 a f)) c 0 v b f = cond (pq b f) (kw_u w c v b) (h.2.2.2.2.1 b f)
  unfold kw_u
  by_cases e : b = c
  · by_cases e2 : f = 0
    · rw [e, e2, ka_uS, if_pos rfl, show pq c 0 = true by unfold pq; rw [Nat.ble_eq_true_of_le h1, Nat.ble_eq_true_of_le h2]; rfl]
      rfl
    · rw [ka_uJ _ _ _ _ _ e2]
      have : pq b f = false := by
        unfold pq
        cases hb : Nat.beq f 0 with
        | true => exact absurd (Nat.eq_of_beq_eq_true hb) e2
        | false => simp
      rw [this]
      rfl
  · rw [ka_uN _ _ _ _ e, if_neg e]
/-- the draft after an operator has ended -/
def kt_en (s : Nat → Nat → Int32) (en op : Nat) (tab beg f1 f2 sb sc : Int32) : Nat → Nat → Int32 := if op = 13 then ka_uF (ka_u (ka_u (ka_u (ka_u (ka_u (ka_u (ka_u s 11 4 (nI (en + 1))) (39 + 2 * en) 1 tab) (39 + 2 * en) 2 beg) (39 + 2 * en) 3 f1) (39 + 2 * en) 4 f2) (39 + 2 * en) 5 sb) (39 + 2 * en) 6 sc) (40 + 2 * en) (kh_o (s (40 + 2 * en)) (s 31) 16) else ka_u (ka_u (ka_u (ka_u (ka_u (ka_u (ka_u s 11 4 (nI (en + 1))) (39 + 2 * en) 1 tab) (39 + 2 * en) 2 beg) (39 + 2 * en) 3 f1) (39 + 2 * en) 4 f2) (39 + 2 * en) 5 sc) (39 + 2 * en) 6 sc
section O6
variable {g : Nat × (Nat → Int32)} {d : Nat} {h : ka_H} {s : Nat → Nat → Int32} {w : Nat → Nat} {R : ka_R → ka_H → Prop} {n p bg en sc : Nat} {tp : Nat → Int32}
theorem kE (hf : kf g h) (he : en < 12) : ka_P h 12 en = 39 + 2 * en ∧ (ka_K h (39 + 2 * en)).1 = 3 ∧ ka_P h (39 + 2 * en) 7 = 40 + 2 * en ∧ kr h (40 + 2 * en) 16 := by
  have h1 := (by decide : ∀ l, l < 12 → (Nat.beq (pt 12 l) 0 = false ∧ pt 12 l = 39 + 2 * l) ∧ (Nat.beq (pt (39 + 2 * l) 7) 0 = false ∧ pt (39 + 2 * l) 7 = 40 + 2 * l) ∧ kt (39 + 2 * l) = (3, 8) ∧ kt (40 + 2 * l) = (30, 16)) en he
  have hb : ∀ x, x < 103 → Nat.blt x 103 = true := fun x hx => Nat.ble_eq_true_of_le hx
  refine ⟨(hf.2.2.1 12 en rfl h1.1.1).trans h1.1.2, ?_, (hf.2.2.1 _ 7 (hb _ (by omega)) h1.2.1.1).trans h1.2.1.2, ?_⟩
  · rw [hf.2.1 _ (hb _ (by omega)), h1.2.2.1]
  · unfold kr
    rw [hf.2.1 _ (hb _ (by omega)), h1.2.2.2]
    exact ⟨rfl, rfl⟩
theorem kc_end (hf : kf g h) (hen : s 11 4 = nI en) (h12 : en < 12) {op : Nat} (hop : op ≤ 13) {tab beg f1 f2 : Int32} (e : R (kp_ri 1) (kcs h (kt_en s en op tab beg f1 f2 (s 13 6) (s 13 5)) (kw_u w (39 + 2 * en) (1000000 + op)))) : kp_T (d + 1) 24 [.ref 11, .ref (1000000 + op), .int tab, .int beg, .int f1, .int f2] (kcs h s w) R := by
  have hfs : ∀ s' w', kf g (kcs h s' w') := fun s' w' => kcs_f hf
  have hK11 : ∀ s' w', (ka_K (kcs h s' w') 11).1 = 1 := fun s' w' => kK (hfs s' w') rfl rfl
  have hK13 : ∀ s' w', (ka_K (kcs h s' w') 13).1 = 0 := fun s' w' => kK (hfs s' w') rfl rfl
  have hKe : ∀ s' w', (ka_K (kcs h s' w') (39 + 2 * en)).1 = 3 := fun s' w' => (kE (hfs s' w') h12).2.1
  have hpt : Nat.blt (39 + 2 * en) 103 = true → Nat.beq (pt (39 + 2 * en) 0) 0 = true := fun _ => pt_op _ (by omega) (by omega)
  have hrd : ∀ (s' : Nat → Nat → Int32) (w' : Nat → Nat), s' 11 4 = nI en → ka_I (kcs h s' w') 11 4 = nI en := fun s' w' z => z
  have hin : ∀ k, pc (39 + 2 * en) k = true := fun k => pc_in (by omega) (by omega) k
  have h31 : ∀ k, pc 31 k = true := fun k => pc_in (by omega) (by omega) k
  refine kd_in (hfs s w) rfl rfl rfl (kd_seg (fun p => Nat.beq p 44) 40 ⟨hK11 s w, ⟨hK11 s w, ?_⟩⟩)
  rw [hrd s w hen]
  refine ⟨by rw [show (ka_K (kcs h s w) (kq_p (kcs h s w) 11 2)).1 = 36 from kK (hfs s w) (a := 12) rfl rfl]; decide, ?_⟩
  rw [show (ka_K (kcs h s w) (kq_p (kcs h s w) 11 2)).2 = 12 from kZ (hfs s w) (a := 12) rfl rfl]
  refine ⟨fun c => absurd (nI_lt (b := 12) h12 (by omega)) c, fun _ => ⟨hK11 s w, ⟨hK11 s w, ?_⟩⟩⟩
  rw [hrd s w hen]
  refine ⟨⟨by rw [show (ka_K (kcs h s w) (kq_p (kcs h s w) 11 2)).1 = 36 from kK (hfs s w) (a := 12) rfl rfl]; decide, by rw [show (ka_K (kcs h s w) (kq_p (kcs h s w) 11 2)).1 = 36 from kK (hfs s w) (a := 12) rfl rfl]; decide, by rw [show (ka_K (kcs h s w) (kq_p (kcs h s w) 11 2)).2 = 12 from kZ (hfs s w) (a := 12) rfl rfl]; exact nI_in (N := 12) h12 (by omega)⟩, ?_⟩
  rw [nI_clamp (by omega), show ka_P (kcs h s w) (kq_p (kcs h s w) 11 2) en = 39 + 2 * en from (kE (hfs s w) h12).1]
  refine ⟨fun _ => ⟨hK11 s w, ⟨hK11 s w, ?_⟩⟩, fun c => absurd c (show ¬ 39 + 2 * en = 0 by omega)⟩
  rw [hrd s w hen]
  rw [show nI en + Int32.ofInt 1 = nI (en + 1) from (nI_succ en).symm, kcs_sI (a := 11) (k := 4) _ rfl]
  generalize hs0 : ka_u s 11 4 (nI (en + 1)) = s0
  refine (kd_seg kp_no 60 ⟨hKe s0 w, ⟨hpt, ?_⟩⟩ : kd_ex g d 24 R 44 [.ref 11, .ref (1000000 + op), .int tab, .int beg, .int f1, .int f2, .ref (39 + 2 * en)] [] (kcs h s0 w))
  rw [kcs_sP (by omega) (by omega)]
  refine ⟨hKe _ _, ?_⟩
  rw [kcs_sI _ (hin 1)]
  refine ⟨hKe _ _, ?_⟩
  rw [kcs_sI _ (hin 2)]
  refine ⟨hKe _ _, ?_⟩
  rw [kcs_sI _ (hin 3)]
  refine ⟨hKe _ _, ?_⟩
  rw [kcs_sI _ (hin 4)]
  generalize hs4 : ka_u (ka_u (ka_u (ka_u s0 (39 + 2 * en) 1 tab) (39 + 2 * en) 2 beg) (39 + 2 * en) 3 f1) (39 + 2 * en) 4 f2 = s4
  have x13 : ∀ k, s4 13 k = s 13 k := fun k => by
    rw [← hs4, ka_uN _ _ _ _ (by omega), ka_uN _ _ _ _ (by omega), ka_uN _ _ _ _ (by omega), ka_uN _ _ _ _ (by omega), ← hs0, ka_uN _ _ _ _ (by omega)]
  unfold kt_en at e
  rw [hs0, hs4] at e
  refine ⟨⟨(show 1000000 + op < 1000014 by omega), by decide⟩, fun c => ?_, fun c => ?_⟩
  · have c1 : ¬ op = 13 := fun z => c (by show 1000000 + op = 1000013; omega)
    rw [if_neg c1] at e
    refine ⟨hK11 _ _, ⟨hK13 _ _, ⟨hKe _ _, ?_⟩⟩⟩
    rw [kcs_sI _ (hin 5), show ka_I (kcs h s4 (kw_u w (39 + 2 * en) (1000000 + op))) (kq_p (kcs h s4 (kw_u w (39 + 2 * en) (1000000 + op))) 11 1) 5 = s 13 5 from x13 5]
    refine ⟨hK11 _ _, ⟨hK13 _ _, ⟨hKe _ _, ?_⟩⟩⟩
    rw [kcs_sI _ (hin 6), show ka_I (kcs h (ka_u s4 (39 + 2 * en) 5 (s 13 5)) (kw_u w (39 + 2 * en) (1000000 + op))) (kq_p (kcs h (ka_u s4 (39 + 2 * en) 5 (s 13 5)) (kw_u w (39 + 2 * en) (1000000 + op))) 11 1) 5 = s 13 5 from (ka_uN s4 (39 + 2 * en) 5 _ (show 13 ≠ 39 + 2 * en by omega) 5).trans (x13 5)]
    refine ⟨⟨(show 1000000 + op < 1000014 by omega), by decide⟩, fun _ => ⟨Or.inr rfl, e⟩, fun c2 => absurd c2 c⟩
  · have c1 : op = 13 := by
      have : 1000000 + op = 1000013 := c
      omega
    rw [if_pos c1] at e
    refine ⟨hK11 _ _, ⟨hK13 _ _, ⟨hKe _ _, ?_⟩⟩⟩
    rw [kcs_sI _ (hin 5), show ka_I (kcs h s4 (kw_u w (39 + 2 * en) (1000000 + op))) (kq_p (kcs h s4 (kw_u w (39 + 2 * en) (1000000 + op))) 11 1) 6 = s 13 6 from x13 6]
    refine ⟨hK11 _ _, ⟨hK13 _ _, ⟨hKe _ _, ?_⟩⟩⟩
    rw [kcs_sI _ (hin 6), show ka_I (kcs h (ka_u s4 (39 + 2 * en) 5 (s 13 6)) (kw_u w (39 + 2 * en) (1000000 + op))) (kq_p (kcs h (ka_u s4 (39 + 2 * en) 5 (s 13 6)) (kw_u w (39 + 2 * en) (1000000 + op))) 11 1) 5 = s 13 5 from (ka_uN s4 (39 + 2 * en) 5 _ (show 13 ≠ 39 + 2 * en by omega) 5).trans (x13 5)]
    refine ⟨⟨(show 1000000 + op < 1000014 by omega), by decide⟩, fun c2 => absurd c c2, fun _ => ⟨hK11 _ _, ⟨hK13 _ _, ⟨kaa (l := 0) (hfs _ _) (by decide) (Or.inr (Or.inr rfl)), ?_⟩⟩⟩⟩
    generalize hs6 : ka_u (ka_u s4 (39 + 2 * en) 5 (s 13 6)) (39 + 2 * en) 6 (s 13 5) = s6 at e
    generalize hw6 : kw_u w (39 + 2 * en) (1000000 + op) = w6 at e
    have hL := kL (hfs s6 w6) (l := 0) (by decide)
    rw [show ka_P (kcs h s6 w6) (kq_p (kcs h s6 w6) (kq_p (kcs h s6 w6) 11 1) 3) (Int32.ofInt 0).toNatClampNeg = 31 from hL.1.2.2]
    refine ⟨hKe s6 w6, ?_⟩
    rw [show kq_p (kcs h s6 w6) (39 + 2 * en) 7 = 40 + 2 * en from (kq_p_s (hfs s6 w6) _ _).trans (kE (hfs s6 w6) h12).2.2.1]
    refine ⟨hL.2.2.2.1, (kE (hfs s6 w6) h12).2.2.2.1, kcp_ok hL.2.2.2 (kE (hfs s6 w6) h12).2.2.2, ?_⟩
    rw [show ((Int32.ofInt 0).toNatClampNeg) = 0 from rfl, show ((Int32.ofInt 16).toNatClampNeg) = 16 from rfl, ka_cpy0, kcs_sF (by omega) (by omega)]
    have y : ∀ c, c ≠ 11 → c ≠ 39 + 2 * en → s6 c = s c := fun c y1 y2 => by
      funext j
      rw [← hs6, ka_uN _ _ _ _ y2, ka_uN _ _ _ _ y2, ← hs4, ka_uN _ _ _ _ y2, ka_uN _ _ _ _ y2, ka_uN _ _ _ _ y2, ka_uN _ _ _ _ y2, ← hs0, ka_uN _ _ _ _ y1]
    rw [show ka_I (kcs h s6 w6) 31 = s 31 from funext fun j => (kcs_I (h31 j)).trans (congrFun (y 31 (by decide) (by omega)) j), show ka_I (kcs h s6 w6) (40 + 2 * en) = s (40 + 2 * en) from funext fun j => (kcs_I (pc_in (by omega) (by omega) j)).trans (congrFun (y _ (by omega) (by omega)) j)]
    exact ⟨Or.inr rfl, e⟩
end O6
