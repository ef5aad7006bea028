/-! what a step leaves as it was, by places -/
def agr (P : Nat → Nat → Bool) (σ τ : sS) : Prop := ∀ q j, P q j = true → τ.1 q j = σ.1 q j
theorem agr_rf {P : Nat → Nat → Bool} {σ : sS} : agr P σ σ := fun _ _ _ => rfl
theorem agr_tr {P : Nat → Nat → Bool} {σ τ υ : sS} (h1 : agr P σ τ) (h2 : agr P τ υ) : agr P σ υ := fun q j h => (h2 q j h).trans (h1 q j h)
theorem agr_I {P : Nat → Nat → Bool} {σ τ : sS} {q j : Nat} {v : Int32} (h : agr P σ τ) (hp : P q j = false) : agr P σ (sI τ q j v) := fun a b hab => by
  rw [sI_r]
  by_cases h1 : a = q
  · by_cases h2 : b = j
    · rw [h1, h2, hp] at hab
      cases hab
    · rw [if_pos h1, if_neg h2, ← h1]
      exact h a b hab
  · rw [if_neg h1]
    exact h a b hab
theorem agr_J {P : Nat → Nat → Bool} {σ τ : sS} {q j : Nat} {v : Int64} (h : agr P σ τ) : agr P σ (sJ τ q j v) := h
theorem agr_sub {P R : Nat → Nat → Bool} {σ τ : sS} (h : agr P σ τ) (hr : ∀ q j, R q j = true → P q j = true) : agr R σ τ := fun q j hq => h q j (hr q j hq)
/-- the class's present part; the model's; all else that is coupled -/
def pCur (q j : Nat) : Bool := (q == 1 && (j == 4 || (j == 5 || j == 6))) || ((Nat.ble 2 q && Nat.ble q 5) || ((q == 6 && j == 5) || ((Nat.ble 7 q && Nat.ble q 11) || ((q == 15 && j == 3) || ((Nat.ble 16 q && Nat.ble q 18) || ((q == 19 && j == 3) || (Nat.ble 20 q && Nat.ble q 22)))))))
def pMod (q _j : Nat) : Bool := q == 84
def pKep (q j : Nat) : Bool := (q == 0 && j == 6) || ((Nat.ble 23 q && Nat.ble q 44) || ((q == 83 && j == 3) || q == 85))
def pTap (q j : Nat) : Bool := (q == 45 && j == 1) || (q == 52 || ((q == 83 && j == 18) || (q == 97 || (q == 50 && j == 0))))
def pRow (q j : Nat) : Bool := (q == 67 && j == 1) || (q == 68 || ((q == 83 && j == 16) || q == 96))
def pShe (q _j : Nat) : Bool := (Nat.ble 70 q && Nat.ble q 76) || (Nat.ble 98 q && Nat.ble q 100)
def pShf (q _j : Nat) : Bool := (Nat.ble 78 q && Nat.ble q 80) || (Nat.ble 101 q && Nat.ble q 103)
def pTra (q j : Nat) : Bool := (q == 81 && j == 1) || (q == 82 || ((q == 83 && j == 32) || q == 104))
def pOth (q j : Nat) : Bool := pKep q j || (pTap q j || (pRow q j || (pShe q j || (pShf q j || pTra q j))))
theorem row_eq {P : Nat → Nat → Bool} {σ τ : sS} (h : agr P σ τ) (q : Nat) (hp : ∀ j, P q j = true) : τ.1 q = σ.1 q := funext fun j => h q j (hp j)
theorem cK_of {σ τ : sS} {a : aK} (h : agr pCur σ τ) (hc : cK σ a) : cK τ a := by
  unfold cK cKr at hc ⊢
  rw [h 1 4 rfl, h 1 5 rfl, h 1 6 rfl, h 15 3 rfl, h 19 3 rfl, h 6 5 rfl, row_eq h 2 (fun _ => rfl), row_eq h 3 (fun _ => rfl), row_eq h 4 (fun _ => rfl), row_eq h 5 (fun _ => rfl), row_eq h 7 (fun _ => rfl), row_eq h 8 (fun _ => rfl), row_eq h 9 (fun _ => rfl), row_eq h 10 (fun _ => rfl), row_eq h 11 (fun _ => rfl), row_eq h 16 (fun _ => rfl), row_eq h 17 (fun _ => rfl), row_eq h 18 (fun _ => rfl), row_eq h 20 (fun _ => rfl), row_eq h 21 (fun _ => rfl), row_eq h 22 (fun _ => rfl)]
  exact hc
theorem mK_of {σ τ : sS} {a : aK} (h : agr pMod σ τ) (hc : mK (σ.1 84) a) : mK (τ.1 84) a := by rwa [row_eq h 84 (fun _ => rfl)]
theorem cK2_of {σ τ : sS} {a : aK} (h : agr pKep σ τ) (hc : cK2 σ a) : cK2 τ a := by
  have hr : ∀ q, 23 ≤ q → q ≤ 44 → τ.1 q = σ.1 q := fun q h1 h2 => row_eq h q (fun j => by unfold pKep; simp [Nat.ble_eq, h1, h2])
  unfold cK2 at hc ⊢
  rw [hr 23 (by omega) (by omega), hr 24 (by omega) (by omega), hr 25 (by omega) (by omega), hr 26 (by omega) (by omega), hr 27 (by omega) (by omega), hr 37 (by omega) (by omega), hr 38 (by omega) (by omega), hr 39 (by omega) (by omega), hr 40 (by omega) (by omega), hr 41 (by omega) (by omega), hr 42 (by omega) (by omega), hr 43 (by omega) (by omega), hr 44 (by omega) (by omega), hr 28 (by omega) (by omega), hr 29 (by omega) (by omega), hr 30 (by omega) (by omega), hr 31 (by omega) (by omega), hr 32 (by omega) (by omega), hr 33 (by omega) (by omega)]
  exact hc
theorem rKept_of {σ τ : sS} (h : agr pKep σ τ) (hc : rKept σ) : rKept τ := by
  unfold rKept at hc ⊢
  rw [h 0 6 rfl, h 83 3 rfl, row_eq h 85 (fun _ => rfl)]
  rcases hc with hc | ⟨h1, h2, b, h3, h4, h5⟩
  · exact Or.inl hc
  · exact Or.inr ⟨h1, h2, b, h3, cK2_of h h4, h5⟩
theorem rTape_of {σ τ : sS} (h : agr pTap σ τ) (hc : rTape σ) : rTape τ := by
  unfold rTape at hc ⊢
  rw [h 45 1 rfl, h 83 18 rfl, h 50 0 rfl, row_eq h 52 (fun _ => rfl), row_eq h 97 (fun _ => rfl)]
  exact hc
theorem rRows_of {σ τ : sS} (h : agr pRow σ τ) (hc : rRows σ) : rRows τ := by
  unfold rRows at hc ⊢
  rw [h 67 1 rfl, h 83 16 rfl, row_eq h 68 (fun _ => rfl), row_eq h 96 (fun _ => rfl)]
  exact hc
theorem rSheets_of {σ τ : sS} (h : agr pShe σ τ) (hc : rSheets σ) : rSheets τ := by
  intro j hj
  have h73 : τ.1 (73 + j) = σ.1 (73 + j) := row_eq h (73 + j) (fun _ => by unfold pShe; rw [show Nat.ble 70 (73 + j) = true from Nat.ble_eq.mpr (by omega), show Nat.ble (73 + j) 76 = true from Nat.ble_eq.mpr (by omega)]; rfl)
  rw [row_eq h 70 (fun _ => rfl), row_eq h 98 (fun _ => rfl), row_eq h 71 (fun _ => rfl), row_eq h 99 (fun _ => rfl), row_eq h 100 (fun _ => rfl), h73]
  exact hc j hj
theorem rShelves_of {σ τ : sS} (h : agr pShf σ τ) (hc : rShelves σ) : rShelves τ := by
  intro j hj
  unfold rShelf
  rw [row_eq h 78 (fun _ => rfl), row_eq h 79 (fun _ => rfl), row_eq h 80 (fun _ => rfl), row_eq h 101 (fun _ => rfl), row_eq h 102 (fun _ => rfl), row_eq h 103 (fun _ => rfl)]
  exact hc j hj
theorem rTrace_of {σ τ : sS} (h : agr pTra σ τ) (hc : rTrace σ) : rTrace τ := by
  unfold rTrace at hc ⊢
  rw [h 81 1 rfl, h 83 32 rfl, row_eq h 82 (fun _ => rfl), row_eq h 104 (fun _ => rfl)]
  exact hc
def rOth (σ : sS) : Prop := rKept σ ∧ rTape σ ∧ rRows σ ∧ rSheets σ ∧ rShelves σ ∧ rTrace σ
theorem rOth_of {σ τ : sS} (h : agr pOth σ τ) (hc : rOth σ) : rOth τ := by
  obtain ⟨h1, h2, h3, h4, h5, h6⟩ := hc
  refine ⟨rKept_of (agr_sub h fun q j hq => ?_) h1, rTape_of (agr_sub h fun q j hq => ?_) h2, rRows_of (agr_sub h fun q j hq => ?_) h3, rSheets_of (agr_sub h fun q j hq => ?_) h4, rShelves_of (agr_sub h fun q j hq => ?_) h5, rTrace_of (agr_sub h fun q j hq => ?_) h6⟩ <;> (unfold pOth; simp [hq])
/-- an answer without a change -/
theorem Rel_of {σ τ : sS} (h1 : agr pCur σ τ) (h2 : agr pMod σ τ) (h3 : agr pOth σ τ) (hr : Rel σ) : Rel τ := by
  obtain ⟨⟨a, hv, hc, hm⟩, ho⟩ := hr
  exact ⟨⟨a, hv, cK_of h1 hc, mK_of h2 hm⟩, rOth_of h3 ho⟩
