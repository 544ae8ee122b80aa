/-! both side by side -/
theorem zO_val {s : Int → Int} (ok : okP s) (z : zOut s) : zOut (tVAL s) := by
  have o29 := ok.1.2.2.1
  have o33 := ok.2.2.2.2.1
  unfold tVAL
  by_cases c : s 29 = 5
  · rw [if_pos c]; exact z
  · rw [if_neg c]
    have ha : 0 ≤ s 29 ∧ s 29 ≤ 4 := by omega
    have gv : gV (s 33) (vaS s) := va_g o33.1
    obtain ⟨⟨gp0, gp1⟩, gn, gk, gl, gj⟩ := gv
    have zr : zOut (rowV (s 29) s (vaS s)) := fun k hk => by
      unfold rowV
      rw [rv_o ha (by omega) (by omega) (by omega) (by omega)]
      exact z k hk
    unfold endV
    by_cases c2 : (vaS s).1 = true ∧ (vaS s).2.1 = s 33
    · rw [if_pos c2]
      exact zO_up (zO_up zr (by omega)) (by omega)
    · rw [if_neg c2]; exact zr
section Q1
variable {G : MG} {d : Nat} {Q : KQ} {Bs X : Nat → Prop} {ad : Int → Nat} {vn vi vt : Int → Nat} {s si st im bd s' si' im' bd' : Int → Int} {hi rn hi' rn' : Int} {h h' : MH} {m : Nat}
/-- the model's cells aside, all is as it was -/
theorem K_m (z : qK G Bs ad vn vi vt s si st hi rn bd h) (f : mF (G.1 + 70) h h') : qK G Bs ad vn vi vt s si st hi rn bd h' := by
  have A := K_A z
  have zi := K_i z
  have zt := K_t z
  have zn := K_n z
  have kvn := K_vn z
  have kvi := K_vi z
  have kvt := K_vt z
  obtain ⟨f1, f2, f3⟩ := f
  obtain ⟨⟨-, al⟩, hB, hf, ⟨hx, hhi⟩, -, -, -, ⟨o1, o2, o3⟩, ⟨g, r⟩, r0, r1, q1, q2, q3, q4, q5, q6⟩ := z
  have F : qFr G.1 Bs (fun a => G.1 + 70 ≤ a ∧ a < G.1 + 79) h h' := ⟨fun zf q hq => (f3 q (Or.inr (by omega))).trans (zf q (by omega)), fun a c hc ha => Or.inl ((f3 a (by omega)).trans hc)⟩
  have u1 := o1.1
  have u2 := o2.1
  exact ⟨⟨A, fun i => (al i).imp (fun q => by omega) id⟩, fun a ha => ⟨by have := (hB a ha).1; omega, (hB a ha).2⟩, qFs_fr F hf, ⟨fr_o F hx (by omega), hhi⟩, qW_fa A zn F (okW_k u1) ⟨u1.1.2.2.1.2, u1.1.2.1.2⟩ kvn (fun a q => by omega), qW_fa A zi F (okW_k u2) ⟨u2.1.2.2.1.2, u2.1.2.1.2⟩ kvi (fun a q => by omega), qW_fa A zt F (okW_k o3) ⟨o3.1.2.2.1.2, o3.1.2.1.2⟩ kvt (fun a q => by omega), ⟨o1, o2, o3⟩, ⟨g, qRW_fr r F (by decide) (by omega) (by omega) (by omega)⟩, r0, r1, q1, q2, q3, by omega, fr_r F q5 (by omega), q6⟩
/-- the class leaves the model's cells -/
theorem MS_cf (z : MS (G.1 + 70) s im hi rn bd h) (f : qFr G.1 Bs (X0 G.1) h h') (hB : ∀ a, Bs a → X0 G.1 a) : MS (G.1 + 70) s im hi rn bd h' := by
  have k : ∀ {j : Nat} {c : MC}, j < 9 → h.2.2 (G.1 + 70 + j) = some c → h'.2.2 (G.1 + 70 + j) = some c := fun {j c} hj hc => by
    have nx : ¬ X0 G.1 (G.1 + 70 + j) := fun q => by unfold X0 at q; omega
    exact fr_b f hc (fun q => nx (hB _ q)) nx
  obtain ⟨⟨f0, f5, f6, f7, f8, f9, f12, f13, f14, f17, f18, f21, f22, f23, q0⟩, q1, q2, q3, u, y, t, o, b, j1, j2, j3, j4, j5⟩ := z
  exact ⟨⟨f0, f5, f6, f7, f8, f9, f12, f13, f14, f17, f18, f21, f22, f23, k (j := 0) (by omega) q0⟩, k (by omega) q1, k (by omega) q2, k (by omega) q3, u, y, t, o, b, k (by omega) j1, k (by omega) j2, k (by omega) j3, k (by omega) j4, k (by omega) j5⟩
/-- how both stand -/
def LK (G : MG) (b L : Nat) (xs : Nat → Int) (s si im : Int → Int) (hi rn : Int) (bd : Int → Int) (h : MH) : Prop := (∃ (Bs : Nat → Prop) (ad : Int → Nat) (vn vi vt : Int → Nat) (st : Int → Int), qK G Bs ad vn vi vt s si st hi rn bd h) ∧ MS (G.1 + 70) s im hi rn bd h ∧ (zOut s ∧ zOut im) ∧ (hi = 1 → im = si) ∧ qSt G h ∧ b < G.1 ∧ h.2.2 b = some (cArr 11 L xs)
def LE (G : MG) (b L : Nat) (xs : Nat → Int) (h : MH) : Prop := ∃ (s si im : Int → Int) (hi rn : Int) (bd : Int → Int), LK G b L xs s si im hi rn bd h
theorem L_step {b L : Nat} {xs : Nat → Int} (z : LK G b L xs s si im hi rn bd h) {kA yA : Nat} {aA : List V} {r : V} (cA : cS G kA yA aA r s' si' hi' rn' bd' h) {kM yM : Nat} {aM : List V} (cM : ∀ h1, MS (G.1 + 70) s im hi rn bd h1 → qSt G h1 → ∃ h2 : MH, MS (G.1 + 70) s' im' hi' rn' bd' h2 ∧ mF (G.1 + 70) h1 h2 ∧ ∀ Q : KQ, wpC G kM yM (vR (G.1 + 70) :: aM) h1 Q = Q (some r) h2) (zs : zOut s' ∧ zOut im') (zi : hi' = 1 → im' = si') : ∃ h1 h2 : MH, LE G b L xs h2 ∧ (h2.1 ≤ h.1 + 100 ∧ h2.2.1 ≤ h.2.1 + 400) ∧ ((∀ K : Nat → Prop, xTag (h.2.2 G.1) K = K 12) ∧ (∀ K : Nat → Prop, xTag (h1.2.2 (G.1 + 70)) K = K 13) ∧ h.2.2 b = some (cArr 11 L xs) ∧ h1.2.2 b = some (cArr 11 L xs)) ∧ (∀ Q : KQ, wpC G kA yA (vR G.1 :: aA) h Q = Q (some r) h1) ∧ (∀ Q : KQ, wpC G kM yM (vR (G.1 + 70) :: aM) h1 Q = Q (some r) h2) := by
  obtain ⟨⟨Bs0, ad0, vn0, vi0, vt0, st0, zK⟩, zM, -, -, zS, hb, hxs⟩ := z
  obtain ⟨Bs1, ad1, vn1, vi1, vt1, st1, h1, y1, y2, y3, y4, y5⟩ := cA
  have hB : ∀ a, Bs1 a → X0 G.1 a := fun a ha => (y1.2.1 a ha).2
  have nx : ¬ X0 G.1 b := fun q => by unfold X0 at q; omega
  have zM1 := MS_cf zM y2 hB
  have zS1 := qSt_fr zS y2 (fun a q => by unfold X0 at q; omega)
  have xs1 := fr_b y2 hxs (fun q => nx (hB _ q)) nx
  obtain ⟨h2, w1, w2, w3⟩ := cM h1 zM1 zS1
  have zS2 : qSt G h2 := fun i hi => by
    obtain ⟨v, g, z1, z2, z3, z4⟩ := zS1 i hi
    exact ⟨v, g, z1, (w2.2.2 v (Or.inl (by omega))).trans z2, z3, z4⟩
  obtain ⟨⟨f0, f5, f6, f7, f8, f9, f12, f13, f14, f17, f18, f21, f22, f23, q0⟩, -⟩ := zM1
  refine ⟨h1, h2, ⟨s', si', im', hi', rn', bd', ⟨Bs1, ad1, vn1, vi1, vt1, st1, K_m y1 w2⟩, w1, zs, zi, zS2, hb, (w2.2.2 b (Or.inl (by omega))).trans xs1⟩, ?_, ⟨fun K => by rw [K_x zK]; rfl, fun K => by rw [q0]; rfl, hxs, xs1⟩, y5, w3⟩
  have := w2.1
  have := w2.2.1
  omega
end Q1
theorem lCmp_s {a : Int} : lCmp a a = 0 := by
  unfold lCmp
  rw [if_neg (by omega), if_pos rfl]
