/-! A WORLD THAT GROWS: cells b .. M - 1 of the layout, at addresses ad, with contents E -/
theorem arrV_congr {cA : ClassId} {N : Nat} {f g : Nat → Value} (h : ∀ j, j < N → f j = g j) : arrV cA N f = arrV cA N g := by
  unfold arrV
  congr 2
  funext j
  exact h _ j.isLt
def wb (ad : Nat → Nat) (E : Nat → va_E) (b M : Nat) : va_W := (List.range (M - b)).map (fun o => (ad (b + o), E (b + o)))
def upE (E : Nat → va_E) (i : Nat) (e : va_E) : Nat → va_E := fun j => if j = i then e else E j
def upN (ad : Nat → Nat) (i : Nat) (q : Nat) : Nat → Nat := fun j => if j = i then q else ad j
theorem upE_at (E : Nat → va_E) (i : Nat) (e : va_E) : upE E i e i = e := by simp [upE]
theorem upE_ne (E : Nat → va_E) {i j : Nat} (e : va_E) (h : j ≠ i) : upE E i e j = E j := by simp [upE, h]
theorem upN_at (ad : Nat → Nat) (i q : Nat) : upN ad i q i = q := by simp [upN]
theorem upN_ne (ad : Nat → Nat) {i j : Nat} (q : Nat) (h : j ≠ i) : upN ad i q j = ad j := by simp [upN, h]
theorem wb_len (ad : Nat → Nat) (E : Nat → va_E) (b M : Nat) : (wb ad E b M).length = M - b := by simp [wb]
theorem wb_at {ad : Nat → Nat} {E : Nat → va_E} {b M i : Nat} (h1 : b ≤ i) (h2 : i < M) : (wb ad E b M)[i - b]? = some (ad i, E i) := by
  have : i - b < M - b := by omega
  simp [wb, this, show b + (i - b) = i by omega]
theorem wb_lt {ad : Nat → Nat} {E : Nat → va_E} {b M k : Nat} {q : Nat × va_E} (h : (wb ad E b M)[k]? = some q) : k < M - b ∧ q = (ad (b + k), E (b + k)) := by
  have hl := (List.getElem?_eq_some_iff.mp h).1
  rw [wb_len] at hl
  refine ⟨hl, ?_⟩
  have h2 := wb_at (ad := ad) (E := E) (b := b) (M := M) (i := b + k) (by omega) (by omega)
  rw [show b + k - b = k by omega, h] at h2
  exact Option.some.inj h2
theorem wb_set {ad : Nat → Nat} {E : Nat → va_E} {b M i : Nat} {e : va_E} (h1 : b ≤ i) (h2 : i < M) : (wb ad E b M).set (i - b) (ad i, e) = wb ad (upE E i e) b M := by
  apply List.ext_getElem?
  intro j
  by_cases hj : j = i - b
  · subst hj
    rw [List.getElem?_set_self (by rw [wb_len]; omega), wb_at h1 h2, upE_at]
  · rw [List.getElem?_set_ne (Ne.symm hj)]
    by_cases hl : j < M - b
    · have a1 := wb_at (ad := ad) (E := E) (b := b) (M := M) (i := b + j) (by omega) (by omega)
      have a2 := wb_at (ad := ad) (E := upE E i e) (b := b) (M := M) (i := b + j) (by omega) (by omega)
      rw [show b + j - b = j by omega] at a1 a2
      rw [a1, a2, upE_ne _ _ (by omega)]
    · rw [List.getElem?_eq_none (by rw [wb_len]; omega), List.getElem?_eq_none (by rw [wb_len]; omega)]
theorem wb_one (h0 : Nat) (e : va_E) (b : Nat) : [(h0, e)] = wb (fun _ => h0) (fun _ => e) b (b + 1) := by
  unfold wb
  rw [show b + 1 - b = 1 by omega]
  rfl
theorem wb_nil (ad : Nat → Nat) (E : Nat → va_E) (b : Nat) : [] = wb ad E b b := by
  unfold wb
  rw [Nat.sub_self]
  rfl
theorem wb_ext {ad ad' : Nat → Nat} {E E' : Nat → va_E} {b M : Nat} (h : ∀ i, b ≤ i → i < M → ad i = ad' i ∧ E i = E' i) : wb ad E b M = wb ad' E' b M := by
  unfold wb
  apply List.map_congr_left
  intro i hi
  have h0 := List.mem_range.mp hi
  have := h (b + i) (by omega) (by omega)
  rw [this.1, this.2]
def jn {α : Type} (N : Nat) (f g : Nat → α) : Nat → α := fun i => if i < N then f i else g i
theorem jn_lt {α : Type} {N i : Nat} (f g : Nat → α) (h : i < N) : jn N f g i = f i := by simp [jn, h]
theorem jn_ge {α : Type} {N i : Nat} (f g : Nat → α) (h : N ≤ i) : jn N f g i = g i := by simp [jn, Nat.not_lt.mpr h]
theorem wb_join {ad ad2 : Nat → Nat} {E E2 : Nat → va_E} {b M L : Nat} (h1 : b ≤ M) (h2 : M ≤ L) : wb ad E b M ++ wb ad2 E2 M L = wb (jn M ad ad2) (jn M E E2) b L := by
  apply List.ext_getElem?
  intro j
  by_cases hj : j < M - b
  · rw [List.getElem?_append_left (by rw [wb_len]; exact hj)]
    have a1 := wb_at (ad := ad) (E := E) (b := b) (M := M) (i := b + j) (by omega) (by omega)
    have a2 := wb_at (ad := jn M ad ad2) (E := jn M E E2) (b := b) (M := L) (i := b + j) (by omega) (by omega)
    rw [show b + j - b = j by omega] at a1 a2
    rw [a1, a2, jn_lt _ _ (by omega), jn_lt _ _ (by omega)]
  · rw [List.getElem?_append_right (by rw [wb_len]; omega), wb_len]
    by_cases hl : j < L - b
    · have a1 := wb_at (ad := ad2) (E := E2) (b := M) (M := L) (i := b + j) (by omega) (by omega)
      have a2 := wb_at (ad := jn M ad ad2) (E := jn M E E2) (b := b) (M := L) (i := b + j) (by omega) (by omega)
      rw [show b + j - b = j by omega] at a2
      rw [show b + j - M = j - (M - b) by omega] at a1
      rw [a1, a2, jn_ge _ _ (by omega), jn_ge _ _ (by omega)]
    · rw [List.getElem?_eq_none (by rw [wb_len]; omega), List.getElem?_eq_none (by rw [wb_len]; omega)]
theorem wb_push {ad : Nat → Nat} {E : Nat → va_E} {b M q : Nat} {e : va_E} (h : b ≤ M) : wb ad E b M ++ [(q, e)] = wb (upN ad M q) (upE E M e) b (M + 1) := by
  rw [wb_one q e M, wb_join h (by omega)]
  refine wb_ext (fun i h1 h2 => ?_)
  by_cases hi : i < M
  · rw [jn_lt _ _ hi, jn_lt _ _ hi, upN_ne _ _ (by omega), upE_ne _ _ (by omega)]
    exact ⟨rfl, rfl⟩
  · have : i = M := by omega
    subst this
    rw [jn_ge _ _ (by omega), jn_ge _ _ (by omega), upN_at, upE_at]
    exact ⟨rfl, rfl⟩
/-! contents that are as good -/
def Cv (D : va_G) (e e' : va_E) : Prop := ∀ (a : Nat) (H : Heap), va_at D vwCl (a, e) H → va_at D vwCl (a, e') H
theorem Cv.of {D : va_G} {e e' : va_E} (h : e = e') : Cv D e e' := fun a H x => h ▸ x
theorem Cv.trans {D : va_G} {e e' e2 : va_E} (h : Cv D e e') (h2 : Cv D e' e2) : Cv D e e2 := fun a H x => h2 a H (h a H x)
theorem Cv.q {D : va_G} {cA : ClassId} {n : Nat} {f f' : Nat → Option Nat} (h : ∀ j, j < n → f j = f' j) : Cv D (.inl (cA, n, .inr (.inr (.inr (.inr f))))) (.inl (cA, n, .inr (.inr (.inr (.inr f'))))) := fun a H x => by
  have x : H[a]? = some (arrV cA n (fun j => va_rf (f j))) := x
  show H[a]? = some (arrV cA n (fun j => va_rf (f' j)))
  rw [x, arrV_congr (fun j hj => by rw [h j hj])]
theorem Cv.i {D : va_G} {cA : ClassId} {n : Nat} {f f' : Nat → Int32} (h : ∀ j, j < n → f j = f' j) : Cv D (.inl (cA, n, .inl f)) (.inl (cA, n, .inl f')) := fun a H x => by
  have x : H[a]? = some (arrV cA n (fun j => .int (f j))) := x
  show H[a]? = some (arrV cA n (fun j => .int (f' j)))
  rw [x, arrV_congr (fun j hj => by rw [h j hj])]
theorem P_cv {D : va_G} {ad : Nat → Nat} {E E' : Nat → va_E} {b M : Nat} {H : Heap} (h : ∀ i, b ≤ i → i < M → Cv D (E i) (E' i)) (hP : va_P D vwCl (wb ad E b M) H) : va_P D vwCl (wb ad E' b M) H := fun k q hk => by
  obtain ⟨hl, e⟩ := wb_lt hk
  subst e
  have h0 := wb_at (ad := ad) (E := E) (b := b) (M := M) (i := b + k) (by omega) (by omega)
  exact h (b + k) (by omega) (by omega) _ _ (hP (b + k - b) _ h0)
theorem D_cv {A : Nat → Prop} {ad : Nat → Nat} {E E' : Nat → va_E} {b M : Nat} (hD : va_D A (wb ad E b M)) : va_D A (wb ad E' b M) := by
  have at' : ∀ k, k < M - b → (wb ad E b M)[k]? = some (ad (b + k), E (b + k)) := fun k hk => by
    have h0 := wb_at (ad := ad) (E := E) (b := b) (M := M) (i := b + k) (by omega) (by omega)
    rwa [show b + k - b = k by omega] at h0
  refine ⟨fun i j x y hi hj hxy => ?_, fun k q hk => ?_⟩
  · obtain ⟨a1, b1⟩ := wb_lt hi
    obtain ⟨a2, b2⟩ := wb_lt hj
    subst b1; subst b2
    exact hD.1 i j _ _ (at' i a1) (at' j a2) hxy
  · obtain ⟨a1, b1⟩ := wb_lt hk
    subst b1
    exact hD.2 k (ad (b + k), E (b + k)) (at' k a1)
theorem ra_same {U : State} {cA cB : ClassId} {ty : FieldType} (h1 : va_RA U cA ty) (h2 : va_RA U cB ty) : cA = cB := by
  cases ty with
  | object C =>
    obtain ⟨_, _, _, _, _, e1⟩ := h1
    obtain ⟨_, _, _, _, _, e2⟩ := h2
    exact Option.some.inj (e1.symm.trans e2)
  | _ => exact Option.some.inj (Eq.trans (Eq.symm h1) h2)
/-! the memory of new objects -/
def r0 (K : Nat) : Nat → Int32 := if K = 9 then (fun k => if k = 3 then 272 else 0) else if K = 10 then firstV else if K = 2 then nI else if K = 20 then (fun k => if k = 0 then 2 else if k = 1 then 1 else if k = 5 then 272 else 0) else fun _ => 0
def mu0 : Mem := fun i => r0 (kd i)
/-- where a cell's references end -/
def hiR (i : Nat) : Nat := if kd i = 9 then i + 4 else if kd i = 11 then i + 26 else if kd i = 1 then 59 else if kd i = 2 then 200 else if kd i = 3 then 260 else if kd i = 5 then 231 else if kd i = 0 then 230 else if kd i = 7 then 287 else 0
theorem kd_0 : ∀ i, i < 287 → (kd i = 0 → i = 0) ∧ (kd i = 1 → i = 57) ∧ (kd i = 2 → i = 58) ∧ (kd i = 3 → i = 227) ∧ (kd i = 5 → i = 229) ∧ (kd i = 7 → i = 287) := by decide +kernel
theorem fs_ad {ad ad' : Nat → Nat} {K i : Nat} {f : Nat → Int32} (h : ∀ k, k < nfK K → ∀ j, fr K i k = some j → ad j = ad' j) : fsK ad K i f = fsK ad' K i f := by
  unfold fsK
  apply List.map_congr_left
  intro k hk
  unfold fvl
  cases hr : fr K i k with
  | none => rfl
  | some j =>
    dsimp only
    rw [h k (List.mem_range.mp hk) j hr]
/-- all of a cell's references lie behind it, and before hiR -/
theorem fr_rng : ∀ i, i < 287 → ∀ k, k < 10 → ∀ j, fr (kd i) i k = some j → i ≤ j ∧ (k < nfK (kd i) → j < hiR i) := by
  intro i hi k hk j
  have := (by decide +kernel : ∀ i, i < 287 → ∀ k, k < 10 → (fr (kd i) i k).all (fun j => decide (i ≤ j) && (decide (nfK (kd i) ≤ k) || decide (j < hiR i))) = true) i hi k hk
  intro h
  rw [h] at this
  simp only [Option.all_some, Bool.and_eq_true, Bool.or_eq_true, decide_eq_true_eq] at this
  exact ⟨this.1, fun h2 => this.2.resolve_left (by omega)⟩
theorem nf_le (K : Nat) : nfK K ≤ 10 := by
  unfold nfK
  repeat' split
  all_goals omega
theorem lay_ge {g : Gv} {ad ad' : Nat → Nat} {i : Nat} (hi : i < 287) (h : ∀ j, i ≤ j → ad j = ad' j) : lay g ad mu0 i = lay g ad' mu0 i := by
  have k0 := kd_0 i hi
  have hf : ∀ f, fsK ad (kd i) i f = fsK ad' (kd i) i f := fun f => fs_ad (fun k hk j hj => h j (fr_rng i hi k (Nat.lt_of_lt_of_le hk (nf_le _)) j hj).1)
  unfold lay cellK
  by_cases h1 : kd i = 11
  · rw [if_pos h1, if_pos h1]
    congr 7
    funext k
    rw [h _ (by omega)]
  · rw [if_neg h1, if_neg h1]
    by_cases h2 : kd i = 2
    · rw [if_pos h2, if_pos h2]
      have := k0.2.2.1 h2
      congr 7
      funext k
      rw [h _ (by omega)]
    · rw [if_neg h2, if_neg h2]
      by_cases h3 : kd i = 3
      · rw [if_pos h3, if_pos h3]
        have := k0.2.2.2.1 h3
        congr 7
        funext k
        rw [h _ (by omega)]
      · rw [if_neg h3, if_neg h3, hf]
theorem lay_cv {g : Gv} {ad ad' : Nat → Nat} {i : Nat} (hi : i < 287) (h : ∀ j, i ≤ j → j < hiR i → ad j = ad' j) : Cv g.1 (lay g ad mu0 i) (lay g ad' mu0 i) := by
  have k0 := kd_0 i hi
  have hf : ∀ f, fsK ad (kd i) i f = fsK ad' (kd i) i f := fun f => fs_ad (fun k hk j hj => by
    have := fr_rng i hi k (Nat.lt_of_lt_of_le hk (nf_le _)) j hj
    exact h j this.1 (this.2 hk))
  unfold lay cellK
  by_cases h1 : kd i = 11
  · rw [if_pos h1, if_pos h1]
    have e : hiR i = i + 26 := by unfold hiR; rw [if_neg (by omega), if_pos h1]
    exact Cv.q (fun k hk => by rw [h _ (by omega) (by omega)])
  · rw [if_neg h1, if_neg h1]
    by_cases h2 : kd i = 2
    · rw [if_pos h2, if_pos h2]
      have e : hiR i = 200 := by unfold hiR; rw [if_neg (by omega), if_neg (by omega), if_neg (by omega), if_pos h2]
      have := k0.2.2.1 h2
      refine Cv.q (fun k hk => ?_)
      have e2 : (mu0 i k).toNatClampNeg = k := by
        unfold mu0 r0
        rw [h2]
        exact nI_clamp (by omega)
      rw [e2, h _ (by omega) (by omega)]
    · rw [if_neg h2, if_neg h2]
      by_cases h3 : kd i = 3
      · rw [if_pos h3, if_pos h3]
        have e : hiR i = 260 := by unfold hiR; rw [if_neg (by omega), if_neg (by omega), if_neg (by omega), if_neg (by omega), if_pos h3]
        have := k0.2.2.2.1 h3
        exact Cv.q (fun k hk => by rw [h _ (by omega) (by omega)])
      · rw [if_neg h3, if_neg h3, hf]
        exact Cv.of rfl
