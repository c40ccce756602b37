/-! words by their places -/
theorem zip_mem {α : Type} {l : List α} {ps : List Nat} {f : α → Cond} (hl : l.length = ps.length) (h : (l.zip ps).all (fun q => decide (lw_tbl[q.2]? = some (f q.1)) && goodWord (f q.1)) = true) : ∀ q ∈ l, f q ∈ gT := by
  intro q hq
  obtain ⟨i, hi⟩ := List.getElem?_of_mem hq
  have hlt : i < l.length := (List.getElem?_eq_some_iff.mp hi).1
  have hlt2 : i < ps.length := by omega
  have hz : (l.zip ps)[i]? = some (q, ps[i]) := by
    rw [List.getElem?_zip_eq_some]
    exact ⟨hi, List.getElem?_eq_getElem hlt2⟩
  have h1 := List.all_eq_true.mp h _ (List.mem_of_getElem? hz)
  exact gT_i h1
def wFL (q : Nat × Nat × Nat) : Cond := .fieldLink (cNm q.1) q.2.1 (cTt (q.2.2 / 32) (q.2.2 % 32)).1 (cTt (q.2.2 / 32) (q.2.2 % 32)).2.1 (cTt (q.2.2 / 32) (q.2.2 % 32)).2.2.1
def wML (q : Nat × Nat × Nat) : Cond := .methodLink (cNm q.1) q.2.1 (mYn q.2.2)
def wNL (q : Nat × Nat × Nat) : Cond := .methodLinkNest (cNm q.1) q.2.1 (mYn q.2.2) "PlayedBack"
def wXL (q : Nat × Nat) : Cond := .methodLink (cNm q.1) q.2 Lib.Math.max.name
def wYL (q : Nat × Nat) : Cond := .methodLink (cNm q.1) q.2 Lib.Math.min.name
def wOL (q : Nat × Nat) : Cond := .methodLink (cNm q.1) q.2 Lib.objectInit
def wAL (q : Nat × Nat) : Cond := .methodLink (cNm q.1) q.2 arraycopyName
def wCN (q : Nat × Nat × Int) : Cond := .constant (cNm q.1) q.2.1 (Int32.ofInt q.2.2)
def wCL (q : Nat × Nat × Int) : Cond := .constantLong (cNm q.1) q.2.1 (Int64.ofInt q.2.2)
def wCS (q : Nat × Nat × Nat) : Cond := .classLink (cNm q.1) q.2.1 (cNm q.2.2)
def sTx : Nat → String
  | 0 => ""
  | 1 => "clm"
  | _ => "ghr"
def wSR (q : Nat × Nat × Nat) : Cond := .stringRef (cNm q.1) q.2.1 (sTx q.2.2)
def sTa : Nat → String × String × String
  | 0 => ("PlayedBack", "ABOVE", "[I")
  | 1 => ("PlayedBack$Choices", "WAYS", "[I")
  | 2 => ("PlayedBack$Voices", "BODIES", "[I")
  | _ => ("java/lang/String", "COMPACT_STRINGS", "Z")
def wST (q : Nat × Nat × Nat) : Cond := .fieldLink (cNm q.1) q.2.1 (sTa q.2.2).1 (sTa q.2.2).2.1 (sTa q.2.2).2.2
set_option maxRecDepth 100000 in
theorem FL_in : ∀ q ∈ FLk, wFL q ∈ gT := zip_mem (ps := FLkp) (by decide +kernel) (by decide +kernel)
set_option maxRecDepth 100000 in
theorem ML_in : ∀ q ∈ MLk, wML q ∈ gT := zip_mem (ps := MLkp) (by decide +kernel) (by decide +kernel)
set_option maxRecDepth 100000 in
theorem OL_in : ∀ q ∈ OLk, wOL q ∈ gT := zip_mem (ps := OLkp) (by decide +kernel) (by decide +kernel)
set_option maxRecDepth 100000 in
theorem AL_in : ∀ q ∈ ALk, wAL q ∈ gT := zip_mem (ps := ALkp) (by decide +kernel) (by decide +kernel)
set_option maxRecDepth 100000 in
theorem CN_in : ∀ q ∈ CNk, wCN q ∈ gT := zip_mem (ps := CNkp) (by decide +kernel) (by decide +kernel)
set_option maxRecDepth 100000 in
theorem CL_in : ∀ q ∈ CLk, wCL q ∈ gT := zip_mem (ps := CLkp) (by decide +kernel) (by decide +kernel)
set_option maxRecDepth 100000 in
theorem CS_in : ∀ q ∈ CSk, wCS q ∈ gT := zip_mem (ps := CSkp) (by decide +kernel) (by decide +kernel)
set_option maxRecDepth 100000 in
theorem ST_in : ∀ q ∈ STk, wST q ∈ gT := zip_mem (ps := STkp) (by decide +kernel) (by decide +kernel)
set_option maxRecDepth 100000 in
theorem XL_in : ∀ q ∈ XLk, wXL q ∈ gT := zip_mem (ps := XLkp) (by decide +kernel) (by decide +kernel)
set_option maxRecDepth 100000 in
theorem YL_in : ∀ q ∈ YLk, wYL q ∈ gT := zip_mem (ps := YLkp) (by decide +kernel) (by decide +kernel)
def wMc (k : Nat) : Cond := .code (mYn k) (mCode k) (mMax k) (mRet k)
def wMi (k : Nat) : Cond := if mSt k then .static (mYn k) else .instanceMethod (mYn k)
def mPl (k : Nat) : Nat × Nat × Nat := (pMt k).2.2.2.2.2.2.2.2
def chW (k : Nat) : Bool := (decide (lw_tbl[(mPl k).1]? = some (wMc k)) && goodWord (wMc k)) && (decide (lw_tbl[(mPl k).2.1]? = some (wMi k)) && goodWord (wMi k)) && (mSt k || decide ((mYn k).name = "<init>") || (decide (lw_tbl[(mPl k).2.2]? = some (.selects (cNm (mOwn k)) (mYn k) (mYn k))) && goodWord (.selects (cNm (mOwn k)) (mYn k) (mYn k)))) && decide ((mYn k).cls ≠ "java/lang/invoke/MethodHandle" ∧ (mYn k).cls ≠ "java/lang/invoke/VarHandle") && decide ((parseMethodDescriptor (mYn k).desc).map (fun d => d.parameters.length) = some (if mSt k then (mSig k).length else (mSig k).length - 1)) && plainName (mYn k).cls && decide (mMax k ≤ 20) && decide (mOwn k < 15) && (mSt k || decide (1 ≤ (mSig k).length))
set_option maxRecDepth 100000 in
theorem chW_c0 : ((List.range 16).all fun j => decide (256 ≤ 0 * 16 + j) || chW (0 * 16 + j)) = true := by decide +kernel
set_option maxRecDepth 100000 in
theorem chW_c1 : ((List.range 16).all fun j => decide (256 ≤ 1 * 16 + j) || chW (1 * 16 + j)) = true := by decide +kernel
set_option maxRecDepth 100000 in
theorem chW_c2 : ((List.range 16).all fun j => decide (256 ≤ 2 * 16 + j) || chW (2 * 16 + j)) = true := by decide +kernel
set_option maxRecDepth 100000 in
theorem chW_c3 : ((List.range 16).all fun j => decide (256 ≤ 3 * 16 + j) || chW (3 * 16 + j)) = true := by decide +kernel
set_option maxRecDepth 100000 in
theorem chW_c4 : ((List.range 16).all fun j => decide (256 ≤ 4 * 16 + j) || chW (4 * 16 + j)) = true := by decide +kernel
set_option maxRecDepth 100000 in
theorem chW_c5 : ((List.range 16).all fun j => decide (256 ≤ 5 * 16 + j) || chW (5 * 16 + j)) = true := by decide +kernel
set_option maxRecDepth 100000 in
theorem chW_c6 : ((List.range 16).all fun j => decide (256 ≤ 6 * 16 + j) || chW (6 * 16 + j)) = true := by decide +kernel
set_option maxRecDepth 100000 in
theorem chW_c7 : ((List.range 16).all fun j => decide (256 ≤ 7 * 16 + j) || chW (7 * 16 + j)) = true := by decide +kernel
set_option maxRecDepth 100000 in
theorem chW_c8 : ((List.range 16).all fun j => decide (256 ≤ 8 * 16 + j) || chW (8 * 16 + j)) = true := by decide +kernel
set_option maxRecDepth 100000 in
theorem chW_c9 : ((List.range 16).all fun j => decide (256 ≤ 9 * 16 + j) || chW (9 * 16 + j)) = true := by decide +kernel
set_option maxRecDepth 100000 in
theorem chW_c10 : ((List.range 16).all fun j => decide (256 ≤ 10 * 16 + j) || chW (10 * 16 + j)) = true := by decide +kernel
set_option maxRecDepth 100000 in
theorem chW_c11 : ((List.range 16).all fun j => decide (256 ≤ 11 * 16 + j) || chW (11 * 16 + j)) = true := by decide +kernel
set_option maxRecDepth 100000 in
theorem chW_c12 : ((List.range 16).all fun j => decide (256 ≤ 12 * 16 + j) || chW (12 * 16 + j)) = true := by decide +kernel
set_option maxRecDepth 100000 in
theorem chW_c13 : ((List.range 16).all fun j => decide (256 ≤ 13 * 16 + j) || chW (13 * 16 + j)) = true := by decide +kernel
set_option maxRecDepth 100000 in
theorem chW_c14 : ((List.range 16).all fun j => decide (256 ≤ 14 * 16 + j) || chW (14 * 16 + j)) = true := by decide +kernel
set_option maxRecDepth 100000 in
theorem chW_c15 : ((List.range 16).all fun j => decide (256 ≤ 15 * 16 + j) || chW (15 * 16 + j)) = true := by decide +kernel
theorem chW_of {c : Nat} (h : ((List.range 16).all fun j => decide (256 ≤ c * 16 + j) || chW (c * 16 + j)) = true) {k : Nat} (hk : k / 16 = c) (h8 : k < 256) : chW k = true := by
  have h1 := List.all_eq_true.mp h (k % 16) (List.mem_range.mpr (Nat.mod_lt _ (by decide)))
  have e : c * 16 + k % 16 = k := by omega
  rw [e] at h1
  simp only [Bool.or_eq_true, decide_eq_true_eq] at h1
  exact h1.resolve_left (by omega)
set_option maxRecDepth 100000 in
theorem chW_256 : chW 256 = true := by decide +kernel
set_option maxRecDepth 100000 in
theorem chW_257 : chW 257 = true := by decide +kernel
theorem chW_all {k : Nat} (hk : k < 258) : chW k = true := by
  by_cases h6 : k = 256
  · subst h6; exact chW_256
  by_cases h7 : k = 257
  · subst h7; exact chW_257
  have hk : k < 256 := by omega
  have h : k / 16 < 16 := by omega
  generalize hc : k / 16 = c at h
  match c, h, hc with
  | 0, _, hc => exact chW_of chW_c0 hc hk
  | 1, _, hc => exact chW_of chW_c1 hc hk
  | 2, _, hc => exact chW_of chW_c2 hc hk
  | 3, _, hc => exact chW_of chW_c3 hc hk
  | 4, _, hc => exact chW_of chW_c4 hc hk
  | 5, _, hc => exact chW_of chW_c5 hc hk
  | 6, _, hc => exact chW_of chW_c6 hc hk
  | 7, _, hc => exact chW_of chW_c7 hc hk
  | 8, _, hc => exact chW_of chW_c8 hc hk
  | 9, _, hc => exact chW_of chW_c9 hc hk
  | 10, _, hc => exact chW_of chW_c10 hc hk
  | 11, _, hc => exact chW_of chW_c11 hc hk
  | 12, _, hc => exact chW_of chW_c12 hc hk
  | 13, _, hc => exact chW_of chW_c13 hc hk
  | 14, _, hc => exact chW_of chW_c14 hc hk
  | 15, _, hc => exact chW_of chW_c15 hc hk
  | c + 16, h, _ => exact absurd h (by omega)
set_option maxRecDepth 100000 in
theorem ini_in : ∀ c, c < 15 → Cond.initialized (cNm c) ∈ gT := by
  intro c hc
  match c, hc with
  | 0, _ => exact gT_i (i := 82) (by decide +kernel)
  | 1, _ => exact gT_i (i := 81) (by decide +kernel)
  | 2, _ => exact gT_i (i := 77) (by decide +kernel)
  | 3, _ => exact gT_i (i := 84) (by decide +kernel)
  | 4, _ => exact gT_i (i := 79) (by decide +kernel)
  | 5, _ => exact gT_i (i := 78) (by decide +kernel)
  | 6, _ => exact gT_i (i := 86) (by decide +kernel)
  | 7, _ => exact gT_i (i := 85) (by decide +kernel)
  | 8, _ => exact gT_i (i := 83) (by decide +kernel)
  | 9, _ => exact gT_i (i := 76) (by decide +kernel)
  | 10, _ => exact gT_i (i := 87) (by decide +kernel)
  | 11, _ => exact gT_i (i := 89) (by decide +kernel)
  | 12, _ => exact gT_i (i := 90) (by decide +kernel)
  | 13, _ => exact gT_i (i := 88) (by decide +kernel)
  | 14, _ => exact gT_i (i := 80) (by decide +kernel)
set_option maxRecDepth 100000 in
theorem ins_in : ∀ c, c < 11 → Cond.instantiable (cNm c) (cNf c) ∈ gT := by
  intro c hc
  match c, hc with
  | 0, _ => exact gT_i (i := 256) (by decide +kernel)
  | 1, _ => exact gT_i (i := 187) (by decide +kernel)
  | 2, _ => exact gT_i (i := 104) (by decide +kernel)
  | 3, _ => exact gT_i (i := 303) (by decide +kernel)
  | 4, _ => exact gT_i (i := 165) (by decide +kernel)
  | 5, _ => exact gT_i (i := 111) (by decide +kernel)
  | 6, _ => exact gT_i (i := 341) (by decide +kernel)
  | 7, _ => exact gT_i (i := 327) (by decide +kernel)
  | 8, _ => exact gT_i (i := 288) (by decide +kernel)
  | 9, _ => exact gT_i (i := 96) (by decide +kernel)
  | 10, _ => exact gT_i (i := 1121) (by decide +kernel)
theorem zip_memL {α : Type} {l : List α} {ps : List Nat} {f : α → Cond} (hl : l.length = ps.length) (h : (l.zip ps).all (fun q => decide (lw_tbl[q.2]? = some (f q.1))) = true) : ∀ q ∈ l, f q ∈ lw_tbl := by
  intro q hq
  obtain ⟨i, hi⟩ := List.getElem?_of_mem hq
  have hlt : i < l.length := (List.getElem?_eq_some_iff.mp hi).1
  have hlt2 : i < ps.length := by omega
  have hz : (l.zip ps)[i]? = some (q, ps[i]) := by
    rw [List.getElem?_zip_eq_some]
    exact ⟨hi, List.getElem?_eq_getElem hlt2⟩
  have h1 := List.all_eq_true.mp h _ (List.mem_of_getElem? hz)
  simp only [decide_eq_true_eq] at h1
  exact List.mem_of_getElem? h1
theorem SR_in : ∀ q ∈ SRk, wSR q ∈ lw_tbl := zip_memL (ps := SRkp) (by decide +kernel) (by decide +kernel)
theorem NL_in : ∀ q ∈ NLk, wNL q ∈ lw_tbl := zip_memL (ps := NLkp) (by decide +kernel) (by decide +kernel)
theorem gT_good : ∀ w ∈ gT, goodWord w = true := fun w h => (List.mem_filter.mp h).2
theorem gT_in : ∀ w ∈ gT, w ∈ lw_tbl := fun w h => (List.mem_filter.mp h).1
