/-! on, the image, plans -/
def chkN (a : Int) : Bool := (List.range 6).all (fun i => let r := iBin 3 a (iBin 5 (iBin 6 1 (i : Int)) (-1)); decide (0 ≤ r) && decide (r < 64) && (List.range 6).all (fun k => decide (bt r k = if k = i then 0 else bt a k)))
theorem chkN_all : (List.range 64).all (fun n => chkN n) = true := by decide +kernel
theorem anot_of {a i : Int} (h0 : 0 ≤ a) (h1 : a < 64) (i0 : 0 ≤ i) (i1 : i < 6) : (0 ≤ iBin 3 a (iBin 5 (iBin 6 1 i) (-1)) ∧ iBin 3 a (iBin 5 (iBin 6 1 i) (-1)) < 64) ∧ ∀ k, 0 ≤ k → k < 6 → bt (iBin 3 a (iBin 5 (iBin 6 1 i) (-1))) k = if k = i then 0 else bt a k := by
  have h := List.all_eq_true.mp chkN_all a.toNat (List.mem_range.mpr (by omega))
  rw [Int.toNat_of_nonneg h0] at h
  unfold chkN at h
  have h2 := List.all_eq_true.mp h i.toNat (List.mem_range.mpr (by omega))
  rw [Int.toNat_of_nonneg i0] at h2
  simp only [Bool.and_eq_true, List.all_eq_true, decide_eq_true_eq] at h2
  refine ⟨h2.1, fun k k0 k1 => ?_⟩
  have h3 := h2.2 k.toNat (List.mem_range.mpr (by omega))
  rw [Int.toNat_of_nonneg k0] at h3
  rw [h3]
  by_cases e : k = i
  · rw [if_pos e, if_pos (by omega)]
  · rw [if_neg e, if_neg (by omega)]
theorem one_64 {i : Int} (i0 : 0 ≤ i) (i1 : i < 6) : 0 ≤ iBin 6 1 i ∧ iBin 6 1 i < 64 := by
  rcases (show i = 0 ∨ i = 1 ∨ i = 2 ∨ i = 3 ∨ i = 4 ∨ i = 5 by omega) with e | e | e | e | e | e <;> subst e <;> decide
theorem AWAYS_up {t : Int → Int} (h01 : ∀ k, 0 ≤ k → k < 6 → t (21 + k) = 0 ∨ t (21 + k) = 1) (h27 : 0 ≤ t 27 ∧ t 27 ≤ 6) {n v : Int} (n0 : 0 ≤ n) (n1 : n < t 27) (hv : v = 0 ∨ v = 1) : AWAYS (up t (21 + n) v) = if v = 1 then iBin 4 (AWAYS t) (iBin 6 1 n) else iBin 3 (AWAYS t) (iBin 5 (iBin 6 1 n) (-1)) := by
  have h01' : ∀ k, 0 ≤ k → k < 6 → up t (21 + n) v (21 + k) = 0 ∨ up t (21 + n) v (21 + k) = 1 := fun k k0 k1 => by
    by_cases e : k = n
    · rw [e, up_eq]; exact hv
    · rw [up_ne (by omega)]; exact h01 k k0 k1
  have e27 : up t (21 + n) v 27 = t 27 := up_ne (by omega)
  have a1 := AWAYS_bt h01' (by rw [e27]; exact h27)
  have a2 := AWAYS_bt h01 h27
  have o := one_64 n0 (show n < 6 by omega)
  have b1 := aor_of a2.1.1 a2.1.2 o.1 o.2
  have b2 := anot_of a2.1.1 a2.1.2 n0 (show n < 6 by omega)
  rcases hv with hv | hv
  · rw [if_neg (by omega)]
    refine aw_ext a1.1.1 a1.1.2 b2.1.1 b2.1.2 (fun k k0 k1 => ?_)
    rw [a1.2 k k0 k1, b2.2 k k0 k1, a2.2 k k0 k1, e27]
    by_cases e : k = n
    · rw [if_pos e, if_pos (by omega), e, up_eq, hv]
    · rw [if_neg e, up_ne (by omega)]
  · rw [if_pos hv]
    refine aw_ext a1.1.1 a1.1.2 b1.1.1 b1.1.2 (fun k k0 k1 => ?_)
    rw [a1.2 k k0 k1, b1.2 k k0 k1, a2.2 k k0 k1, e27, one_bt n0 (by omega) k0 k1]
    by_cases e : k = n
    · rw [if_pos e, if_pos (by omega), if_pos rfl, e, up_eq, hv]
    · rw [if_neg e, up_ne (by omega), if_neg (show ¬ (0 : Int) = 1 by decide)]
/-- begun anew -/
def BEGs (t : Int → Int) (a : Int) : Int → Int := up (up (up t (6 + a) 0) (11 + a) 0) (16 + a) 0
def plS (w n : Int) (t : Int → Int) : Int → Int := if w = 0 then GOES t else if w = 3 then BEGs t n else up t (21 + n) (if w = 1 then 1 else 0)
def plF (s : Int → Int) : Nat → Int → (Int → Int) → (Int → Int)
  | 0, _, t => t
  | m + 1, i, t => plF s m (i + 1) (plS (s (95 + i)) (s (103 + i)) t)
def aDONE (s : Int → Int) (w : Int) : Int := if 0 ≤ w ∧ w ≤ 1 then (if w = 0 then BACKS (plF s (s 31).toNat 0 s) else THROUGHS (plF s (s 31).toNat 0 s)) else -1
theorem BEGs_low {t : Int → Int} {a : Int} (a0 : 0 ≤ a ∧ a < 5) : lowS t (BEGs t a) := fun i hi => by
  unfold BEGs
  rw [up_ne (by omega), up_ne (by omega), up_ne (by omega)]
theorem BEGs_oth {t : Int → Int} {a : Int} : ∀ c, 0 ≤ c → c < 5 → (0 ≤ a ∧ a < 5) → ¬ c = a → BEGs t a (1 + c) = t (1 + c) ∧ BEGs t a (6 + c) = t (6 + c) ∧ BEGs t a (11 + c) = t (11 + c) ∧ BEGs t a (16 + c) = t (16 + c) := fun c c0 c1 a0 e => by
  unfold BEGs
  refine ⟨?_, ?_, ?_, ?_⟩ <;> rw [up_ne (by omega), up_ne (by omega), up_ne (by omega)]
theorem BEGs_at {t : Int → Int} {a : Int} (a0 : 0 ≤ a ∧ a < 5) : BEGs t a (1 + a) = t (1 + a) ∧ BEGs t a (6 + a) = 0 ∧ BEGs t a (11 + a) = 0 ∧ BEGs t a (16 + a) = 0 := by
  unfold BEGs
  refine ⟨?_, ?_, ?_, ?_⟩
  · rw [up_ne (by omega), up_ne (by omega), up_ne (by omega)]
  · rw [up_ne (by omega), up_ne (by omega), up_eq]
  · rw [up_ne (by omega), up_eq]
  · rw [up_eq]
theorem okW_low {s s' : Int → Int} (l : lowS s s') (ok : okW s) (h : ∀ a, 0 ≤ a → a < 5 → (s' (16 + a) = 0 ∨ s' (16 + a) = 1) ∧ (0 ≤ s' (1 + a) ∧ s' (1 + a) ≤ 255) ∧ (0 ≤ s' (6 + a) ∧ s' (6 + a) ≤ 200) ∧ (s' (16 + a) = 0 → s' (6 + a) ≤ 99) ∧ 0 ≤ s' (11 + a) ∧ s' (11 + a) ≤ 6) : okW s' := by
  obtain ⟨⟨o1, o2, o3, o4, o5⟩, o34, o29, oWt, oAw, oN, oA⟩ := ok
  refine ⟨⟨okM_low l o1, by rw [l 28 (by omega)]; exact o2, by rw [l 27 (by omega)]; exact o3, fun p p0 p1 => okA_low l (o4 p p0 (by rw [l 27 (by omega)] at p1; exact p1)), fun a a0 a1 => (h a a0 a1).2.2.2.2.1⟩, by rw [l 34 (by omega), l 29 (by omega)]; exact o34, by rw [l 29 (by omega)]; exact o29, fun f f0 f1 => by rw [l _ (by omega)]; exact oWt f f0 f1, fun k k0 k1 => by rw [l _ (by omega)]; exact oAw k k0 k1, fun i i0 i1 => by rw [l _ (by omega)]; exact oN i i0 i1, fun a a0 a1 => ?_⟩
  have := h a a0 a1
  exact ⟨this.1, this.2.1, this.2.2.1, this.2.2.2.1, this.2.2.2.2.2⟩
theorem okW_BEG {t : Int → Int} (ok : okW t) {a : Int} (a0 : 0 ≤ a ∧ a < 5) : okW (BEGs t a) := okW_low (BEGs_low a0) ok (fun c c0 c1 => by
  have hc := ok.2.2.2.2.2.2 c c0 c1
  have hp := ok.1.2.2.2.2 c c0 c1
  by_cases e : c = a
  · subst e
    obtain ⟨q1, q2, q3, q4⟩ := BEGs_at (t := t) (a := c) ⟨c0, c1⟩
    rw [q1, q2, q3, q4]
    exact ⟨Or.inl rfl, hc.2.1, by omega, fun _ => by omega, by omega, by omega⟩
  · obtain ⟨q1, q2, q3, q4⟩ := BEGs_oth (t := t) c c0 c1 a0 e
    rw [q1, q2, q3, q4]
    exact ⟨hc.1, hc.2.1, hc.2.2.1, hc.2.2.2.1, hp, hc.2.2.2.2⟩)
section T8
variable {G : MG} {d : Nat} {Q : KQ} {Bs X : Nat → Prop} {ad : Int → Nat} {vn vi vt : Int → Nat} {s si st t bd : Int → Int} {hi rn : Int} {h h' : MH}
theorem c_setAway {w : Nat} {sg dy aw : Int} (hw : h.2.2 w = some (wO w sg dy aw)) {n v : Int} : wpC G (d + 1) 51 [vR w, vI n, vI v] h Q = Q none (hset h w (wO w sg dy (if ¬ v = 0 then iBin 4 aw (iBin 6 1 n) else iBin 3 aw (iBin 5 (iBin 6 1 n) (-1))))) := by
  rw [e51]
  by_cases c : v = 0
  · rw [if_neg (fun q => q c)]
    simp (disch := omega) only [KK, Int.reduceEq, not_false_iff, ↓reduceIte, ↓if_pos, ↓if_neg, xt_o, true_and, nlO_i, nlO_n, nlO_r, List.length_nil, List.length_cons, Nat.reduceAdd, Nat.reduceLeDiff, Nat.zero_le, U51, c, hw, GX11, PX11]
  · rw [if_pos c]
    simp (disch := omega) only [KK, Int.reduceEq, not_false_iff, ↓reduceIte, ↓if_pos, ↓if_neg, xt_o, true_and, nlO_i, nlO_n, nlO_r, List.length_nil, List.length_cons, Nat.reduceAdd, Nat.reduceLeDiff, Nat.zero_le, U51, hw, GX11, PX11]
theorem A_image (z : qK G Bs ad vn vi vt s si st hi rn bd h) (hr : h.1 + 60 ≤ maxC ∧ h.2.1 + 300 ≤ maxS) : cS G (d + 8) 41 [] (vI (s 27)) s s 1 rn bd h := by
  have hx := K_x z
  have zn := (K_n z).1.1
  have zi := (K_i z).1.1
  obtain ⟨ad', h1, z1, f1, c1, c2, w1⟩ := K_ima (d := d) z hr
  have hx1 := K_x z1
  have f2 : qFr G.1 Bs (fun q => q = G.1) h1 (hset h1 G.1 (xO G.1 1)) := qFr_set rfl hx1
  have oxo : qXo (fun q => q = G.1) h1 := xo_1 hx1 (by omega)
  have A := K_A z1
  have aw : ∀ i, ¬ ad' i = G.1 := fun i q => by have := A.2 i; omega
  have zn1 := (K_n z1).1.1
  have hsz := fun (K : KQ) => ll_size (G := G) (d := d + 6) (Q := K) (qW_fo (K_n z1) f2 (okW_k (K_p z1).1) oxo (fun q => by omega) (fun q => by omega) (fun _ _ _ => aw _) (fun _ _ _ => aw _)).2.1
  have htg := fun (K : Nat → Prop) => ll_tag (qW_fo (K_n z1) f2 (okW_k (K_p z1).1) oxo (fun q => by omega) (fun q => by omega) (fun _ _ _ => aw _) (fun _ _ _ => aw _)).2.1 (K := K)
  have nw : ¬ G.1 + 1 = G.1 := by omega
  refine ⟨Bs, ad', vn, vn, vt, st, hset h1 G.1 (xO G.1 1), ?_, qFr_tr f1 (qFr_wk f2 (fun a q => Or.inl (by omega))), ⟨c1.1, by rw [hs_1]; omega⟩, ⟨c2.1, by rw [hs_2]; omega⟩, fun Q => ?_⟩
  · obtain ⟨⟨-, al⟩, hB, hf, ⟨hx, hhi⟩, z1, z2, z3, ⟨o1, o2, o3⟩, ⟨g, r⟩, r0, r1, q1, q2, q3, q4, q5, q6⟩ := z1
    exact ⟨⟨A, al⟩, hB, qFs_fr f2 hf, ⟨hs_eq, Or.inr rfl⟩, qW_fo z1 f2 (okW_k o1.1) oxo (fun q => by omega) (fun q => by omega) (fun _ _ _ => aw _) (fun _ _ _ => aw _), qW_fo z2 f2 (okW_k o2.1) oxo (fun q => by omega) (fun q => by omega) (fun _ _ _ => aw _) (fun _ _ _ => aw _), qW_fo z3 f2 (okW_k o3) oxo (fun q => by omega) (fun q => by omega) (fun _ _ _ => aw _) (fun _ _ _ => aw _), ⟨o1, o2, o3⟩, ⟨g, qRW_fo r f2 (by decide) oxo⟩, r0, r1, q1, q2, q3, q4, fr_r f2 q5 (fun q => by omega), q6⟩
  · rw [e41]
    simp (disch := omega) only [KK, Int.reduceEq, not_false_iff, ↓reduceIte, ↓if_pos, ↓if_neg, xt_o, true_and, nlO_i, nlO_n, nlO_r, List.length_nil, List.length_cons, Nat.reduceAdd, Nat.reduceLeDiff, Nat.zero_le, U41, hx, zn, zi, w1, hx1, hs_eq, hs_ne nw, zn1, hsz, htg, GX12, PX12, GX11, VS11, VS0, true_or, or_true]
theorem A_undo (z : qK G Bs ad vn vi vt s si st hi rn bd h) (hr : h.1 + 60 ≤ maxC ∧ h.2.1 + 300 ≤ maxS) : cS G (d + 8) 42 [] (vI (if hi = 0 then -3 else si 27)) (if hi = 0 then s else si) si hi rn bd h := by
  have hx := K_x z
  have zn := (K_n z).1.1
  have zi := (K_i z).1.1
  by_cases c : hi = 0
  · rw [if_pos c, if_pos c]
    refine cQ_S (cQ_id z (fun Q => ?_))
    rw [e42]
    rw [c] at hx
    simp (disch := omega) only [KK, Int.reduceEq, not_false_iff, ↓reduceIte, ↓if_pos, ↓if_neg, xt_o, true_and, nlO_i, nlO_n, nlO_r, List.length_nil, List.length_cons, Nat.reduceAdd, Nat.reduceLeDiff, Nat.zero_le, U42, hx, GX12]
  · rw [if_neg c, if_neg c]
    obtain ⟨ad', h1, z1, f1, c1, c2, w1⟩ := K_und (d := d) z hr
    have hx1 := K_x z1
    have zn1 := (K_n z1).1.1
    have hsz := fun (K : KQ) => ll_size (G := G) (d := d + 6) (Q := K) (K_n z1).2.1
    have htg := fun (K : Nat → Prop) => ll_tag (K_n z1).2.1 (K := K)
    refine ⟨Bs, ad', vi, vi, vt, st, h1, z1, f1, by omega, by omega, fun Q => ?_⟩
    rw [e42]
    simp (disch := omega) only [KK, Int.reduceEq, not_false_iff, ↓reduceIte, ↓if_pos, ↓if_neg, xt_o, true_and, nlO_i, nlO_n, nlO_r, List.length_nil, List.length_cons, Nat.reduceAdd, Nat.reduceLeDiff, Nat.zero_le, U42, hx, zn, w1, hx1, zn1, hsz, htg, GX12, GX11, VS11, VS0]
end T8
