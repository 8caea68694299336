/-! ===== image, the step ===== -/
section ImageS
variable {ld bk : Nat} {L : LD} {x m : St}
theorem bul130 (h : K ld bk L x m) {c : Nat} (hc : c ≤ 30) (c1 : gI x 6 3 = nI c) (c2 : gI m 0 60 = nI c) (c3 : ∀ i, i < c → gI x 9 i = gI m 40 i) : ∀ d i f f' n σ τ, i + d = c → d < f → d < f' → IW x m n σ τ → n + 2 * d ≤ 550 → ∃ σ' τ', f_X3_write_79 f (nI i) σ = ((f_X3_seal 33 (gI σ' 32 1) σ').bind fun q1 => (f_X3_put q1.1 (1 : Int32) q1.2).bind fun q2 => some ((), q2.2)) ∧ f_X11_image_130 f' (nI i) τ = f_X11_image_159 FU 41 0 τ' ∧ IW x m (n + 2 * d) σ' τ' := by
  intro d
  induction d with
  | zero =>
    intro i f f' n σ τ hi hf hf' w hn
    obtain ⟨f, rfl⟩ : ∃ k, f = k + 1 := ⟨f - 1, by omega⟩
    obtain ⟨f', rfl⟩ : ∃ k, f' = k + 1 := ⟨f' - 1, by omega⟩
    have g1 : gI σ 6 3 = nI c := by rw [w.1 6 3 (by decide) (by decide)]; exact c1
    have g2 : gI τ 0 60 = nI c := by rw [w.2.2.2.1 0 60 (by decide) (by decide)]; exact c2
    refine ⟨σ, τ, ?_, ?_, w⟩
    · rw [e_X3_write_79, g1, if_pos (nI_le (by omega) (by omega))]
    · rw [e_X11_image_130, g2, if_pos (nI_le (by omega) (by omega))]
  | succ d ih =>
    intro i f f' n σ τ hi hf hf' w hn
    obtain ⟨f, rfl⟩ : ∃ k, f = k + 1 := ⟨f - 1, by omega⟩
    obtain ⟨f', rfl⟩ : ∃ k, f' = k + 1 := ⟨f' - 1, by omega⟩
    have g1 : gI σ 6 3 = nI c := by rw [w.1 6 3 (by decide) (by decide)]; exact c1
    have g2 : gI τ 0 60 = nI c := by rw [w.2.2.2.1 0 60 (by decide) (by decide)]; exact c2
    have g3 : gI σ 9 i = gI x 9 i := w.1 9 i (by decide) (by omega)
    have g4 : gI τ 40 i = gI x 9 i := by rw [w.2.2.2.1 40 i (by decide) (by omega)]; exact (c3 i (by omega)).symm
    obtain ⟨σ1, τ1, e1, e2, w1⟩ := put2B w (by omega) (gI x 9 i)
    obtain ⟨σ', τ', f1, f2, w2⟩ := ih (i + 1) f f' (n + 2) σ1 τ1 (by omega) (by omega) (by omega) w1 (by omega)
    refine ⟨σ', τ', ?_, ?_, by rw [show n + 2 * (d + 1) = n + 2 + 2 * d by omega]; exact w2⟩
    · rw [e_X3_write_79, g1, if_neg (nI_ge (by omega) (by omega)), if_neg (show ¬ (30 : Int32) ≤ nI i from nI_ge (b := 30) (by omega) (by omega)), if_pos (inb_nI (by omega) (by omega)), ix_nI (by omega), g3, e1]
      dsimp only [Option.bind]
      rw [nI_1]
      exact f1
    · rw [e_X11_image_130, g2, if_neg (nI_ge (by omega) (by omega)), if_pos (inb_nI (by omega) (by omega)), ix_nI (by omega), g4, e2]
      dsimp only [Option.bind]
      rw [nI_1]
      exact f2
theorem seal159 {n : Nat} {σ τ : St} (w : IW x m n σ τ) (hn : n ≤ 550) : ∀ d i f f' (c : Int32), i + d = n → d < f → d < f' → ∃ v, f_X3_seal_5 33 f (nI n) c (nI i) σ = some (v, σ) ∧ f_X11_image_159 f' c (nI i) τ = ((f_X11_writes v τ).bind fun q1 => some (gI q1.2 0 72, q1.2)) := by
  intro d
  induction d with
  | zero =>
    intro i f f' c hi hf hf'
    obtain ⟨f, rfl⟩ : ∃ k, f = k + 1 := ⟨f - 1, by omega⟩
    obtain ⟨f', rfl⟩ : ∃ k, f' = k + 1 := ⟨f' - 1, by omega⟩
    exact ⟨c, by rw [e_X3_seal_5, if_pos (nI_le (by omega) (by omega))], by rw [e_X11_image_159, w.2.2.2.2.2.2.1, if_pos (nI_le (by omega) (by omega))]⟩
  | succ d ih =>
    intro i f f' c hi hf hf'
    obtain ⟨f, rfl⟩ : ∃ k, f = k + 1 := ⟨f - 1, by omega⟩
    obtain ⟨f', rfl⟩ : ∃ k, f' = k + 1 := ⟨f' - 1, by omega⟩
    obtain ⟨v, e1, e2⟩ := ih (i + 1) f f' (jrem (3 * c + gI τ 45 i) 239) (by omega) (by omega) (by omega)
    refine ⟨v, ?_, ?_⟩
    · rw [e_X3_seal_5, if_neg (nI_ge (by omega) (by omega)), show lnX 33 = 551 from rfl, show Int32.ofNat 551 = nI 551 from rfl, if_neg (nI_ge (by omega) (by omega)), if_pos (inb_nI (by omega) (by omega)), ix_nI (by omega), w.2.2.2.2.2.2.2 i (by omega)]
      dsimp only [ltt]
      rw [nI_1]
      exact e1
    · rw [e_X11_image_159, w.2.2.2.2.2.2.1, if_neg (nI_ge (by omega) (by omega)), if_pos (inb_nI (by omega) (by omega)), ix_nI (by omega)]
      dsimp only [ltt]
      rw [nI_1]
      exact e2
theorem IW.rel {n : Nat} {σ τ : St} (h : RelF x m) (w : IW x m n σ τ) (hn : n ≤ 551) : RelF σ τ := by
  obtain ⟨⟨q, ⟨t1, t2, t3, t4⟩, ⟨f1, f2⟩, r, ⟨s, s1, s2, s3⟩, -⟩, hB⟩ := h
  obtain ⟨a1, a2, a3, a4, a5, a6, a7, a8⟩ := w
  refine ⟨⟨q, ⟨t1, ?_, ?_, fun i hi => ?_⟩, ⟨?_, ?_⟩, fun i hi => ?_, ⟨s, s1, by rw [a3]; exact s2, by rw [a5]; exact s3⟩, ⟨n, hn, a6, a7, a8⟩⟩, ?_⟩
  · rw [a1 0 9 (by decide) (by decide)]; exact t2
  · rw [a4 0 1 (by decide) (by decide)]; exact t3
  · rw [a1 1 i (by decide) (by omega), a4 1 i (by decide) (by omega)]; exact t4 i hi
  · rw [a1 0 10 (by decide) (by decide), a4 0 10 (by decide) (by decide)]; exact f1
  · rw [a1 0 11 (by decide) (by decide), a4 0 11 (by decide) (by decide)]; exact f2
  · rw [a1 2 i (by decide) (by omega), a4 32 i (by decide) (by omega)]; exact r i hi
  · refine congrB LWC_o x m σ τ ⟨fun o k e => a1 o k (fun q => by rw [q] at e; simp [xA] at e) (fun q => by rw [q.1] at e; simp [xA] at e), a2⟩ ⟨fun o k e => a4 o k (fun q => by rw [q] at e; simp [mA] at e) (fun q => by rw [q.1, q.2] at e; cases e), fun o k _ => a5 o k⟩ hB
theorem step32 : Step_32 RelF := by
  intro x m h
  obtain ⟨ld, bk, L, k0, rc⟩ := h.op
  obtain ⟨-, hs, hb, hl, hw, hd⟩ := id k0
  have h8 := hl.1.1
  obtain ⟨y, hy, y1, y2⟩ := hd.1
  obtain ⟨r, hr, r1, r2⟩ := hd.2.1
  obtain ⟨c, hc, c1, c2, c3⟩ := hd.2.2.1
  have w0 : IW x m 0 (sI x 32 1 0) (sI m 0 72 0) := ⟨fun o k e1 e2 => by rw [gI_sI, if_neg e2], fun _ _ => rfl, fun _ _ => rfl, fun o k e1 e2 => by rw [gI_sI, if_neg e2], fun _ _ => rfl, by rw [gI_sI, if_pos ⟨rfl, rfl⟩]; rfl, by rw [gI_sI, if_pos ⟨rfl, rfl⟩]; rfl, fun i hi => by omega⟩
  have v1 : gI (sI x 32 1 0) 6 1 = nI y := by rw [w0.1 6 1 (by decide) (by decide)]; exact y1
  have v2 : gI (sI m 0 72 0) 0 52 = nI y := by rw [w0.2.2.2.1 0 52 (by decide) (by decide)]; exact y2
  obtain ⟨σ1, τ1, a1, a2, w1⟩ := put2B w0 (by omega) (nI y)
  obtain ⟨σ2, τ2, a3, a4, w2⟩ := per15 k0 L.np 0 FU FU 2 σ1 τ1 (by omega) (by rw [FU_eq]; omega) (by rw [FU_eq]; omega) w1 (by omega)
  obtain ⟨σ3, τ3, a5, a6, w3⟩ := let75 k0 26 0 FU FU (2 + 54 * L.np) σ2 τ2 (by omega) (by rw [FU_eq]; omega) (by rw [FU_eq]; omega) w2 (by omega)
  have v3 : gI σ3 6 2 = nI r := by rw [w3.1 6 2 (by decide) (by decide)]; exact r1
  have v4 : gI τ3 0 55 = nI r := by rw [w3.2.2.2.1 0 55 (by decide) (by decide)]; exact r2
  obtain ⟨σ4, τ4, τ5, a7, a8, a9, f5, w4⟩ := put3B w3 (by omega) (nI r)
  have v5 : gI τ5 0 55 = nI r := by rw [f5 0 55 (by decide) (by decide)]; exact r2
  have v6 : gI σ4 6 3 = nI c := by rw [w4.1 6 3 (by decide) (by decide)]; exact c1
  have v7 : gI τ4 0 60 = nI c := by rw [w4.2.2.2.1 0 60 (by decide) (by decide)]; exact c2
  obtain ⟨σ6, τ6, b1, b2, w6⟩ := put1B w4 (by omega) (nI c)
  obtain ⟨σ7, τ7, b3, b4, w7⟩ := bul130 k0 hc c1 c2 (fun i hi => by obtain ⟨b, -, -, e1, e2⟩ := c3 i hi; rw [e1, e2]) c 0 FU FU _ σ6 τ6 (by omega) (by rw [FU_eq]; omega) (by rw [FU_eq]; omega) w6 (by omega)
  obtain ⟨v, b5, b6⟩ := seal159 w7 (by omega) _ 0 FU FU 41 (Nat.zero_add _) (by rw [FU_eq]; omega) (by rw [FU_eq]; omega)
  obtain ⟨σ8, τ8, b7, b8, w8⟩ := put1B w7 (by omega) v
  refine ⟨nI (2 + 54 * L.np + 2 * 26 + 3 + 1 + 2 * c + 1), σ8, τ8, ?_, ?_, w8.rel h (by omega)⟩
  · rw [e_X10_image, e_X3_write]
    dsimp only [ltt]
    rw [v1, a1]
    dsimp only [Option.bind]
    have a3' : f_X3_write_16 FU 0 σ1 = _ := a3
    have a5' : f_X3_putLetters 8 σ2 = some ((), σ3) := by rw [e_X3_putLetters]; exact a5
    rw [a3', a5']
    dsimp only [Option.bind]
    rw [v3, a7]
    dsimp only
    rw [v6, b1]
    dsimp only
    have b3' : f_X3_write_79 FU 0 σ6 = _ := b3
    rw [b3', w7.2.2.2.2.2.1]
    have b5' : f_X3_seal 33 (nI (2 + 54 * L.np + 2 * 26 + 3 + 1 + 2 * c)) σ7 = some (v, σ7) := by rw [e_X3_seal]; exact b5
    rw [b5']
    dsimp only [Option.bind]
    rw [b7]
    dsimp only
    rw [w8.2.2.2.2.2.1]
  · rw [e_X11_image]
    dsimp only [ltt]
    rw [v2, a2]
    dsimp only [Option.bind]
    have a4' : f_X11_image_15 FU 0 τ1 = _ := a4
    have a6' : f_X11_image_75 FU 0 τ2 = _ := a6
    rw [a4', a6', v4, a8]
    dsimp only [Option.bind]
    rw [v5, a9]
    dsimp only
    rw [v7, b2]
    dsimp only
    have b4' : f_X11_image_130 FU 0 τ6 = _ := b4
    have b6' : f_X11_image_159 FU 41 0 τ7 = _ := b6
    rw [b4', b6', b8]
    dsimp only [Option.bind]
    rw [w8.2.2.2.2.2.2.1]
end ImageS
