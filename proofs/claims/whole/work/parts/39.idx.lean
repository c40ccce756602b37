section IX
variable {d : Nat} {E : pEv} {ro : Nat → Nat → Int32} {Q : Option Value → pH → Prop}
theorem ch_n {c : Nat} (h : c < 256) : ((nI c).toUInt32 % 65536).toInt32 = nI c := by
  have : ∀ c, c < 256 → ((nI c).toUInt32 % 65536).toInt32 = nI c := by decide +kernel
  exact this c h
theorem x_ix_1 (s_E : oE E) {c : Nat} (hc : c < 256) : wX (d + 6) 248 [.ref 1, .int (nI c)] (mkH E ro) Q = Q (some (.int (if nm 0 c < 3 then nI (nm 0 c) else -1))) (mkH E ro) := by
  refine (en_J0_indexOf_0f7a4_1 (d := d + 5) s_E).trans ?_
  refine (en_J0_indexOf_7cf53_1 (d := d + 4) s_E).trans ?_
  refine (en_J0_isLatin1_aae02_1 (d := d + 3) s_E).trans ?_
  refine (sg_J0_indexOf_7cf53_1_4 (d := d + 4) s_E).trans ?_
  rw [if_neg (by decide)]
  refine (en_J0_length_8abf5_1 (d := d + 3) s_E).trans ?_
  refine (en_J0_coder_7d493_1 (d := d + 2) s_E).trans ?_
  refine (sg_J0_length_8abf5_1_9 (d := d + 3) s_E).trans ?_
  refine (sg_J0_indexOf_7cf53_1_17 (d := d + 4) s_E).trans ?_
  rw [show ((3 : Int32) >>> ((0 : Int32) &&& 31)) = 3 from by decide]
  refine (en_J1_indexOf_4cfef_1 (d := d + 3) s_E).trans ?_
  refine (en_J1_canEncode_9a6ad (d := d + 2) s_E).trans ?_
  rw [if_neg (nI_pos (by omega)), if_neg (show ¬ (255 : Int32) < nI c from @nI_nlt 255 c (by omega) (by decide))]
  refine (sg_J1_indexOf_4cfef_1_4 (d := d + 3) s_E).trans ?_
  rw [if_neg (by decide), if_pos (by decide)]
  rw [show (if (0 : Int32) < 0 then 0 else 0) = nI 0 from by decide, show (if (3 : Int32) < 3 then 3 else 3) = nI 3 from by decide]
  refine (en_J1_indexOfChar_4cfef_1 (d := d + 2) s_E).trans ?_
  have step : ∀ k v R, k < 3 → wG (d + 2) 254 (7, [.ref 4, .int (nI c), .int (nI 0), .int (nI 3), .int v, .int (nI k)], [], mkH E ro) R = if exI E.2.1 4 k = v then R (some (.int (nI k))) (mkH E ro) else wG (d + 2) 254 (7, [.ref 4, .int (nI c), .int (nI 0), .int (nI 3), .int v, .int (nI (k + 1))], [], mkH E ro) R := by
    intro k v R hk
    refine (sg_J1_indexOfChar_4cfef_1_7 s_E (fun _ => ix_n hk (by decide))).trans ?_
    rw [if_pos (nI_lt hk (by decide)), nI_clamp (by omega), ← nI_succ]
  refine (step 0 _ _ (by decide)).trans ?_
  rw [step 1 _ _ (by decide), step 2 _ _ (by decide)]
  rw [sg_J1_indexOfChar_4cfef_1_7 s_E (fun h => absurd h (by decide)), if_neg (show ¬ nI (2 + 1) < nI 3 from by decide)]
  have e : ∀ c, c < 256 → (if exI (fun _ => 0) 4 0 = (nI c).toInt8.toInt32 then nI 0 else if exI (fun _ => 0) 4 1 = (nI c).toInt8.toInt32 then nI 1 else if exI (fun _ => 0) 4 2 = (nI c).toInt8.toInt32 then nI 2 else -1) = if nm 0 c < 3 then nI (nm 0 c) else -1 := by decide +kernel
  rw [← e c hc]
  have fin : ∀ y, wG (d + 3) 253 (36, [.ref 4, .int (nI c), .int (nI 0), .int (nI 3)], [.int y], mkH E ro) (fun v h' => wG (d + 4) 249 (20, [.ref 1, .int (nI c), .int 0], pv v [], h') (fun v h' => wG (d + 5) 248 (6, [.ref 1, .int (nI c)], pv v [], h') Q)) = Q (some (.int y)) (mkH E ro) := by
    intro y
    refine (sg_J1_indexOf_4cfef_1_36 (d := d + 3) s_E).trans ?_
    refine (sg_J0_indexOf_7cf53_1_20 (d := d + 4) s_E).trans ?_
    exact sg_J0_indexOf_0f7a4_1_6 (d := d + 5) s_E
  have f2 : ∀ (p : Prop) [Decidable p] (A B : Prop) y w, (A = Q (some (.int y)) (mkH E ro)) → (B = Q (some (.int w)) (mkH E ro)) → (if p then A else B) = Q (some (.int (if p then y else w))) (mkH E ro) := by
    intro p _ A B y w hA hB
    by_cases hp : p
    · rw [if_pos hp, if_pos hp, hA]
    · rw [if_neg hp, if_neg hp, hB]
  exact f2 _ _ _ _ _ (fin _) (f2 _ _ _ _ _ (fin _) (f2 _ _ _ _ _ (fin _) (fin _)))
theorem x_ix_2 (s_E : oE E) {c : Nat} (hc : c < 256) : wX (d + 6) 248 [.ref 2, .int (nI c)] (mkH E ro) Q = Q (some (.int (if nm 1 c < 3 then nI (nm 1 c) else -1))) (mkH E ro) := by
  refine (en_J0_indexOf_0f7a4_2 (d := d + 5) s_E).trans ?_
  refine (en_J0_indexOf_7cf53_2 (d := d + 4) s_E).trans ?_
  refine (en_J0_isLatin1_aae02_2 (d := d + 3) s_E).trans ?_
  refine (sg_J0_indexOf_7cf53_2_4 (d := d + 4) s_E).trans ?_
  rw [if_neg (by decide)]
  refine (en_J0_length_8abf5_2 (d := d + 3) s_E).trans ?_
  refine (en_J0_coder_7d493_2 (d := d + 2) s_E).trans ?_
  refine (sg_J0_length_8abf5_2_9 (d := d + 3) s_E).trans ?_
  refine (sg_J0_indexOf_7cf53_2_17 (d := d + 4) s_E).trans ?_
  rw [show ((3 : Int32) >>> ((0 : Int32) &&& 31)) = 3 from by decide]
  refine (en_J1_indexOf_4cfef_2 (d := d + 3) s_E).trans ?_
  refine (en_J1_canEncode_9a6ad (d := d + 2) s_E).trans ?_
  rw [if_neg (nI_pos (by omega)), if_neg (show ¬ (255 : Int32) < nI c from @nI_nlt 255 c (by omega) (by decide))]
  refine (sg_J1_indexOf_4cfef_2_4 (d := d + 3) s_E).trans ?_
  rw [if_neg (by decide), if_pos (by decide)]
  rw [show (if (0 : Int32) < 0 then 0 else 0) = nI 0 from by decide, show (if (3 : Int32) < 3 then 3 else 3) = nI 3 from by decide]
  refine (en_J1_indexOfChar_4cfef_2 (d := d + 2) s_E).trans ?_
  have step : ∀ k v R, k < 3 → wG (d + 2) 254 (7, [.ref 5, .int (nI c), .int (nI 0), .int (nI 3), .int v, .int (nI k)], [], mkH E ro) R = if exI E.2.1 5 k = v then R (some (.int (nI k))) (mkH E ro) else wG (d + 2) 254 (7, [.ref 5, .int (nI c), .int (nI 0), .int (nI 3), .int v, .int (nI (k + 1))], [], mkH E ro) R := by
    intro k v R hk
    refine (sg_J1_indexOfChar_4cfef_2_7 s_E (fun _ => ix_n hk (by decide))).trans ?_
    rw [if_pos (nI_lt hk (by decide)), nI_clamp (by omega), ← nI_succ]
  refine (step 0 _ _ (by decide)).trans ?_
  rw [step 1 _ _ (by decide), step 2 _ _ (by decide)]
  rw [sg_J1_indexOfChar_4cfef_2_7 s_E (fun h => absurd h (by decide)), if_neg (show ¬ nI (2 + 1) < nI 3 from by decide)]
  have e : ∀ c, c < 256 → (if exI (fun _ => 0) 5 0 = (nI c).toInt8.toInt32 then nI 0 else if exI (fun _ => 0) 5 1 = (nI c).toInt8.toInt32 then nI 1 else if exI (fun _ => 0) 5 2 = (nI c).toInt8.toInt32 then nI 2 else -1) = if nm 1 c < 3 then nI (nm 1 c) else -1 := by decide +kernel
  rw [← e c hc]
  have fin : ∀ y, wG (d + 3) 253 (36, [.ref 5, .int (nI c), .int (nI 0), .int (nI 3)], [.int y], mkH E ro) (fun v h' => wG (d + 4) 249 (20, [.ref 2, .int (nI c), .int 0], pv v [], h') (fun v h' => wG (d + 5) 248 (6, [.ref 2, .int (nI c)], pv v [], h') Q)) = Q (some (.int y)) (mkH E ro) := by
    intro y
    refine (sg_J1_indexOf_4cfef_2_36 (d := d + 3) s_E).trans ?_
    refine (sg_J0_indexOf_7cf53_2_20 (d := d + 4) s_E).trans ?_
    exact sg_J0_indexOf_0f7a4_2_6 (d := d + 5) s_E
  have f2 : ∀ (p : Prop) [Decidable p] (A B : Prop) y w, (A = Q (some (.int y)) (mkH E ro)) → (B = Q (some (.int w)) (mkH E ro)) → (if p then A else B) = Q (some (.int (if p then y else w))) (mkH E ro) := by
    intro p _ A B y w hA hB
    by_cases hp : p
    · rw [if_pos hp, if_pos hp, hA]
    · rw [if_neg hp, if_neg hp, hB]
  exact f2 _ _ _ _ _ (fin _) (f2 _ _ _ _ _ (fin _) (f2 _ _ _ _ _ (fin _) (fin _)))
end IX
