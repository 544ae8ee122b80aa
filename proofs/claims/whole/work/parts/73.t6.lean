/-! takings, in the class as a whole; what is tried -/
section T6
variable {G : MG} {d : Nat} {Q : KQ} {Bs X : Nat → Prop} {ad : Int → Nat} {vn vi vt : Int → Nat} {s si st st' bd : Int → Int} {hi rn : Int} {h h' : MH}
theorem K_G (z : qK G Bs ad vn vi vt s si st hi rn bd h) : qG G ad h := ⟨z.1.1, z.1.2, z.2.2.2.2.2.2.2.2.2.2.2.2.2.2.1⟩
theorem K_st (z : qK G Bs ad vn vi vt s si st hi rn bd h) : h.2.2 (G.2.1 GE) = some (cRef 1 0 (fun _ => none)) ∧ G.2.1 GE < G.1 := z.2.2.2.2.2.2.2.2.2.2.2.2.2.2.2
theorem K_vn (z : qK G Bs ad vn vi vt s si st hi rn bd h) : ∀ i, 0 ≤ i → i < s 29 → G.1 + 79 ≤ vn i := z.2.2.2.2.2.2.2.2.2.2.2.1
theorem K_vi (z : qK G Bs ad vn vi vt s si st hi rn bd h) : ∀ i, 0 ≤ i → i < si 29 → G.1 + 79 ≤ vi i := z.2.2.2.2.2.2.2.2.2.2.2.2.1
theorem K_vt (z : qK G Bs ad vn vi vt s si st hi rn bd h) : ∀ i, 0 ≤ i → i < st 29 → G.1 + 79 ≤ vt i := z.2.2.2.2.2.2.2.2.2.2.2.2.2.1
theorem K_i (z : qK G Bs ad vn vi vt s si st hi rn bd h) : qW G Bs ad 100 (G.1 + 23) vi si h := z.2.2.2.2.2.1
theorem K_t (z : qK G Bs ad vn vi vt s si st hi rn bd h) : qW G Bs ad 200 (G.1 + 45) vt st h := z.2.2.2.2.2.2.1
theorem K_pi (z : qK G Bs ad vn vi vt s si st hi rn bd h) : okP si := z.2.2.2.2.2.2.2.1.2.1
theorem K_pt (z : qK G Bs ad vn vi vt s si st hi rn bd h) : okW st := z.2.2.2.2.2.2.2.1.2.2
/-- the trial world taken from now -/
theorem K_try (z : qK G Bs ad vn vi vt s si st hi rn bd h) (hr : h.1 + 60 ≤ maxC ∧ h.2.1 + 300 ≤ maxS) : ∃ (ad' : Int → Nat) (h' : MH), qK G Bs ad' vn vi vn s si s hi rn bd h' ∧ qFr G.1 Bs (X0 G.1) h h' ∧ (h.1 ≤ h'.1 ∧ h'.1 ≤ h.1 + 60) ∧ (h.2.1 ≤ h'.2.1 ∧ h'.2.1 ≤ h.2.1 + 300) ∧ ∀ Q : KQ, wpC G (d + 7) 53 [vR (G.1 + 45), vR (G.1 + 1)] h Q = Q none h' := by
  have hge := (K_st z).2
  obtain ⟨ad', h', ⟨a1, a2, a3⟩, a4, a5, a6, a7, a8, a9, a10⟩ := c_take (Bs := Bs) (d := d) (K_G z) z.2.2.1 (K_st z).1 (K_p z) (w := G.1 + 1) (w' := G.1 + 45) (by omega) (by omega) ⟨hge, by omega⟩ (b := 0) (b' := 200) (by omega) (K_n z) (K_t z) (K_vn z) hr
  have zn := a6 0 (G.1 + 1) vn s (by omega) (by omega) (by omega) (K_p z).1 (K_vn z) (K_n z)
  have zi := a6 100 (G.1 + 23) vi si (by omega) (by omega) (by omega) (K_pi z).1 (K_vi z) (K_i z)
  have vn' := K_vn z
  have vi' := K_vi z
  obtain ⟨-, hB, hf, ⟨hx, hhi⟩, -, -, -, ⟨o1, o2, o3⟩, ⟨g, r⟩, r0, r1, -⟩ := z
  refine ⟨ad', h', ⟨⟨a1.1, a1.2.1⟩, fun a ha => ⟨by have := (hB a ha).1; omega, (hB a ha).2⟩, a2, ⟨fr_o a7 hx (by omega), hhi⟩, zn, zi, a5, ⟨o1, o2, o1.1⟩, ⟨g, qRW_fr r a7 (by decide) (by omega) (by omega) (by omega)⟩, r0, r1, vn', vi', vn', a1.2.2, a3, hge⟩, qFr_wk a7 (fun a q => ?_), a8, a9, a10⟩
  unfold X0
  omega
/-- the image taken from now -/
theorem K_ima (z : qK G Bs ad vn vi vt s si st hi rn bd h) (hr : h.1 + 60 ≤ maxC ∧ h.2.1 + 300 ≤ maxS) : ∃ (ad' : Int → Nat) (h' : MH), qK G Bs ad' vn vn vt s s st hi rn bd h' ∧ qFr G.1 Bs (X0 G.1) h h' ∧ (h.1 ≤ h'.1 ∧ h'.1 ≤ h.1 + 60) ∧ (h.2.1 ≤ h'.2.1 ∧ h'.2.1 ≤ h.2.1 + 300) ∧ ∀ Q : KQ, wpC G (d + 7) 53 [vR (G.1 + 23), vR (G.1 + 1)] h Q = Q none h' := by
  have hge := (K_st z).2
  obtain ⟨ad', h', ⟨a1, a2, a3⟩, a4, a5, a6, a7, a8, a9, a10⟩ := c_take (Bs := Bs) (d := d) (K_G z) z.2.2.1 (K_st z).1 (K_p z) (w := G.1 + 1) (w' := G.1 + 23) (by omega) (by omega) ⟨hge, by omega⟩ (b := 0) (b' := 100) (by omega) (K_n z) (K_i z) (K_vn z) hr
  have zn := a6 0 (G.1 + 1) vn s (by omega) (by omega) (by omega) (K_p z).1 (K_vn z) (K_n z)
  have zt := a6 200 (G.1 + 45) vt st (by omega) (by omega) (by omega) (K_pt z) (K_vt z) (K_t z)
  have vn' := K_vn z
  have vt' := K_vt z
  obtain ⟨-, hB, hf, ⟨hx, hhi⟩, -, -, -, ⟨o1, o2, o3⟩, ⟨g, r⟩, r0, r1, -⟩ := z
  refine ⟨ad', h', ⟨⟨a1.1, a1.2.1⟩, fun a ha => ⟨by have := (hB a ha).1; omega, (hB a ha).2⟩, a2, ⟨fr_o a7 hx (by omega), hhi⟩, zn, a5, zt, ⟨o1, o1, o3⟩, ⟨g, qRW_fr r a7 (by decide) (by omega) (by omega) (by omega)⟩, r0, r1, vn', vn', vt', a1.2.2, a3, hge⟩, qFr_wk a7 (fun a q => ?_), a8, a9, a10⟩
  unfold X0
  omega
/-- now taken from the image -/
theorem K_und (z : qK G Bs ad vn vi vt s si st hi rn bd h) (hr : h.1 + 60 ≤ maxC ∧ h.2.1 + 300 ≤ maxS) : ∃ (ad' : Int → Nat) (h' : MH), qK G Bs ad' vi vi vt si si st hi rn bd h' ∧ qFr G.1 Bs (X0 G.1) h h' ∧ (h.1 ≤ h'.1 ∧ h'.1 ≤ h.1 + 60) ∧ (h.2.1 ≤ h'.2.1 ∧ h'.2.1 ≤ h.2.1 + 300) ∧ ∀ Q : KQ, wpC G (d + 7) 53 [vR (G.1 + 1), vR (G.1 + 23)] h Q = Q none h' := by
  have hge := (K_st z).2
  obtain ⟨ad', h', ⟨a1, a2, a3⟩, a4, a5, a6, a7, a8, a9, a10⟩ := c_take (Bs := Bs) (d := d) (K_G z) z.2.2.1 (K_st z).1 (K_pi z) (w := G.1 + 23) (w' := G.1 + 1) (by omega) (by omega) ⟨hge, by omega⟩ (b := 100) (b' := 0) (by omega) (K_i z) (K_n z) (K_vi z) hr
  have zi := a6 100 (G.1 + 23) vi si (by omega) (by omega) (by omega) (K_pi z).1 (K_vi z) (K_i z)
  have zt := a6 200 (G.1 + 45) vt st (by omega) (by omega) (by omega) (K_pt z) (K_vt z) (K_t z)
  have vi' := K_vi z
  have vt' := K_vt z
  obtain ⟨-, hB, hf, ⟨hx, hhi⟩, -, -, -, ⟨o1, o2, o3⟩, ⟨g, r⟩, r0, r1, -⟩ := z
  refine ⟨ad', h', ⟨⟨a1.1, a1.2.1⟩, fun a ha => ⟨by have := (hB a ha).1; omega, (hB a ha).2⟩, a2, ⟨fr_o a7 hx (by omega), hhi⟩, a5, zi, zt, ⟨o2, o2, o3⟩, ⟨g, qRW_fr r a7 (by decide) (by omega) (by omega) (by omega)⟩, r0, r1, vi', vi', vt', a1.2.2, a3, hge⟩, qFr_wk a7 (fun a q => ?_), a8, a9, a10⟩
  unfold X0
  omega
/-- days, or what else writes the trial's own object and its askers alone -/
theorem K_trd (z : qK G Bs ad vn vi vt s si st hi rn bd h) (f : qFr G.1 Bs (qAs ad 200 (G.1 + 45) (st 28)) h h') (hc : h'.1 = h.1) (zt : qW G Bs ad 200 (G.1 + 45) vt st' h') (okt : okW st') (e29 : st' 29 = st 29) : qK G Bs ad vn vi vt s si st' hi rn bd h' := by
  have A := z.1.1
  have zt0 := K_t z
  have oxo : qXo (qAs ad 200 (G.1 + 45) (st 28)) h := fun a ha => by
    rcases ha with e | ⟨c, c0, c1, e⟩
    · exact ⟨11, _, by rw [e]; exact zt0.1.1, by omega, by omega, by omega⟩
    · exact ⟨1, _, by rw [e]; exact zt0.2.2.2.2.2.1 c c0 c1, by omega, by omega, by omega⟩
  have o28 := (K_pt z).1.2.1
  have on27 := (K_p z).1.1.2.2.1
  have on28 := (K_p z).1.1.2.1
  have oi27 := (K_pi z).1.1.2.2.1
  have oi28 := (K_pi z).1.1.2.1
  have nf : ∀ a, a < G.1 + 79 → ¬ a = G.1 + 45 → ¬ qAs ad 200 (G.1 + 45) (st 28) a := fun a ha hn q => by
    rcases q with e | ⟨c, c0, c1, e⟩
    · exact hn e
    · have := A.2 (200 + 10 + c); omega
  have nd : ∀ i, i < 200 → ¬ qAs ad 200 (G.1 + 45) (st 28) (ad i) := fun i hi q => by
    rcases q with e | ⟨c, c0, c1, e⟩
    · have := A.2 i; omega
    · have := A.1 _ _ e; omega
  obtain ⟨⟨-, al⟩, hB, hf, ⟨hx, hhi⟩, z1, z2, z3, ⟨o1, o2, o3⟩, ⟨g, r⟩, r0, r1, q1, q2, q3, q4, q5, q6⟩ := z
  exact ⟨⟨A, fun i => by rw [hc]; exact al i⟩, fun a ha => by rw [hc]; exact hB a ha, qFs_fr f hf, ⟨fr_o f hx (nf _ (by omega) (by omega)), hhi⟩, qW_fo z1 f (okW_k o1.1) oxo (nf _ (by omega) (by omega)) (nf _ (by omega) (by omega)) (fun k k0 k1 => nd _ (by omega)) (fun k k0 k1 => nd _ (by omega)), qW_fo z2 f (okW_k o2.1) oxo (nf _ (by omega) (by omega)) (nf _ (by omega) (by omega)) (fun k k0 k1 => nd _ (by omega)) (fun k k0 k1 => nd _ (by omega)), zt, ⟨o1, o2, okt⟩, ⟨g, qRW_fo r f (by decide) oxo⟩, r0, r1, q1, q2, by rw [e29]; exact q3, by rw [hc]; exact q4, fr_r f q5 (nf _ (by omega) (by omega)), q6⟩
end T6
