/-! pieces of the class's constructor -/
section I2
variable {G : MG} {d : Nat} {h : MH}
theorem i_asker {a : Nat} (ha : h.2.2 a = some (cObj 1 [vI 0, vI 0, vI 0, vI 0])) : ∀ Q : KQ, wpC G (d + 1) 94 [vR a] h Q = Q none h := fun Q => by
  have e : hset h a (cObj 1 [vI 0, vI 0, vI 0, vI 0]) = h := hs_same ha
  rw [e94]
  simp (disch := omega) only [KK, Int.reduceEq, not_false_iff, ↓reduceIte, ↓if_pos, ↓if_neg, xt_o, true_and, nlO_i, nlO_n, nlO_r, List.length_nil, List.length_cons, Nat.reduceAdd, Nat.reduceLeDiff, Nat.zero_le, U94, ha, e, hs_eq, GX1, PX1, or_true, true_or]
/-- a new row of rows at o: o + 1, o + 2 are made -/
theorem i_rows {o cap : Nat} (ho : h.2.2 o = some (cObj 7 [vO none, vO none, vI 0])) (eo : G.1 + h.1 = o + 1) (hcap : cap ≤ 100) (hr : h.1 + 2 ≤ maxC ∧ h.2.1 + 200 ≤ maxS) : ∃ h' : MH, (∀ f g : Int → Int, qRW h' o cap 0 f g) ∧ (∀ q, (q < o ∨ o + 3 ≤ q) → h'.2.2 q = h.2.2 q) ∧ (h'.1 = h.1 + 2 ∧ h'.2.1 = h.2.1 + 2 * cap) ∧ ∀ Q : KQ, wpC G (d + 2) 85 [vR o, vI cap] h Q = Q none h' := by
  obtain ⟨h1, y1, a1, b1, c1, d1, e1⟩ := stA_ex (m := o) (a := o + 1) (n := cap) (arr := cArr 0 cap (fun _ => 0)) (cell := cObj 7 [vR (o + 1), vO none, vI 0]) (h := h) (by omega)
  obtain ⟨h2, y2, a2, b2, c2, d2, e2⟩ := stA_ex (m := o) (a := o + 2) (n := cap) (arr := cArr 0 cap (fun _ => 0)) (cell := cObj 7 [vR (o + 1), vR (o + 2), vI 0]) (h := h1) (by omega)
  have e : hset h o (cObj 7 [vO none, vO none, vI 0]) = h := hs_same ho
  have hmx := fun (K : KQ) => j_max (G := G) (d := d) (h := h) (Q := K) (a := 0) (b := (cap : Int))
  rw [Int.max_eq_right (by omega)] at hmx
  have em1 : G.1 + h1.1 = o + 2 := by omega
  have rc : (h.1 + 1 ≤ maxC) = True := eq_true (by omega)
  have rs : (h.2.1 + cap ≤ maxS) = True := eq_true (by omega)
  have rc1 : (h1.1 + 1 ≤ maxC) = True := eq_true (by omega)
  have rs1 : (h1.2.1 + cap ≤ maxS) = True := eq_true (by omega)
  have t0 : (0 ≤ (cap : Int)) = True := eq_true (by omega)
  have t1 : ((cap : Int) ≤ 100000) = True := eq_true (by omega)
  refine ⟨h2, fun f g => ⟨fun _ => 0, fun _ => 0, a2, ?_, b2, fun i i0 i1 i2 => by omega⟩, fun q hq => by rw [c2 _ (by omega) (by omega), c1 _ (by omega) (by omega)], ⟨by omega, by omega⟩, fun Q => ?_⟩
  · rw [c2 _ (by omega) (by omega)]; exact b1
  · rw [e85]
    simp (disch := omega) only [KK, Int.reduceEq, not_false_iff, ↓reduceIte, ↓if_pos, ↓if_neg, xt_o, true_and, nlO_i, nlO_n, nlO_r, List.length_nil, List.length_cons, Nat.reduceAdd, Nat.reduceLeDiff, Nat.zero_le, u85_0, u85_1, u85_4, u85_5, u85_6, u85_9, u85_10, u85_11, u85_14, u85_15, u85_16, u85_17, u85_19, ho, e, hmx, rc, rs, t0, t1, Int.toNat_natCast, eo, hn_ne (show ¬ o = o + 1 by omega), hs_eq, GX7, PX7, or_true, true_or]
    rw [← y1]
    simp (disch := omega) only [KK, Int.reduceEq, not_false_iff, ↓reduceIte, ↓if_pos, ↓if_neg, xt_o, true_and, nlO_i, nlO_n, nlO_r, List.length_nil, List.length_cons, Nat.reduceAdd, Nat.reduceLeDiff, Nat.zero_le, u85_22, u85_23, u85_24, u85_26, u85_29, a1, rc1, rs1, t0, t1, Int.toNat_natCast, em1, hn_ne (show ¬ o = o + 2 by omega), GX7, PX7, or_true, true_or]
    rw [← y2]
end I2
