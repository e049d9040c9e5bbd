section CRF
variable {n : Nat} {M : Mm} {B : Nat → Int32} {s : Nat} {key : Int32} {k : Tk} {L : List (Int32 × Int32)} {w : Nat}
theorem c1_sign {K : Mm → Int32 → Prop} {c : Int32} (h : CS M B s key k L w) (ho : tkO B s k) (hY : isS B k c → K M 1) (hN : ¬ isS B k c → K M 0) : wp_X1_isSign n M c K := by
  obtain ⟨h1, ⟨h2, h3, h4⟩, h5, h6, h7, h8⟩ := h
  have h96 := h1.1
  have hs := ho.2.1
  have h4' := ho.2.2.1
  unfold wp_X1_isSign
  rw [h4, h2, show (3 : Int32) = nI 3 from rfl, nI_eq (by omega) (by decide)]
  refine ⟨fun q => hN (fun z => q z.1), fun q => e2_at h1 (by have := ho.1; omega) ?_⟩
  have hlt := ho.2.2.2.1 (by omega)
  rw [show atv B s k.1 = B k.1 from if_pos (by omega)]
  exact ⟨fun z => hN (fun y => z y.2), fun z => hY ⟨q, z⟩⟩
theorem c1_level {K : Mm → Int32 → Prop} (h : CS M B s key k L w) (ho : tkO B s k) (hY : ∀ l : Nat, l ≤ 4 → opl B k l → K M (nI l)) (hN : (∀ l : Nat, ¬ opl B k l) → K M (-1)) : wp_X1_levelHere n M K := by
  obtain ⟨h1, ⟨h2, h3, h4⟩, h5, h6, h7, h8⟩ := h
  have h96 := h1.1
  have hs := ho.2.1
  have h4' := ho.2.2.1
  unfold wp_X1_levelHere
  rw [h4, h2, show (3 : Int32) = nI 3 from rfl, nI_eq (by omega) (by decide)]
  refine ⟨fun q => e2_at h1 (by have := ho.1; omega) ?_, fun q => hN (fun l z => q z.1)⟩
  have hlt := ho.2.2.2.1 (by omega)
  rw [show atv B s k.1 = B k.1 from if_pos (by omega)]
  refine ⟨fun e => hY 1 (by decide) ⟨q, Or.inr (Or.inl ⟨rfl, e⟩)⟩, fun e => hY 4 (by decide) ⟨q, Or.inr (Or.inr (Or.inr (Or.inr ⟨rfl, Or.inl e⟩)))⟩, fun e => hY 3 (by decide) ⟨q, Or.inr (Or.inr (Or.inr (Or.inl ⟨rfl, Or.inl e⟩)))⟩, fun e => hY 3 (by decide) ⟨q, Or.inr (Or.inr (Or.inr (Or.inl ⟨rfl, Or.inr e⟩)))⟩, fun e => hY 4 (by decide) ⟨q, Or.inr (Or.inr (Or.inr (Or.inr ⟨rfl, Or.inr e⟩)))⟩, fun e => hY 2 (by decide) ⟨q, Or.inr (Or.inr (Or.inl ⟨rfl, Or.inl e⟩))⟩, fun e => hY 2 (by decide) ⟨q, Or.inr (Or.inr (Or.inl ⟨rfl, Or.inr (Or.inl e)⟩))⟩, fun e => hY 2 (by decide) ⟨q, Or.inr (Or.inr (Or.inl ⟨rfl, Or.inr (Or.inr e)⟩))⟩, fun e => hY 0 (by decide) ⟨q, Or.inl ⟨rfl, e⟩⟩, fun a b c d e f g h i => hN (fun l z => ?_)⟩
  rcases z.2 with ⟨_, y⟩ | ⟨_, y⟩ | ⟨_, y | y | y⟩ | ⟨_, y | y⟩ | ⟨_, y | y⟩
  · exact i y
  · exact a y
  · exact f y
  · exact g y
  · exact h y
  · exact c y
  · exact d y
  · exact b y
  · exact e y
theorem opl_u {l l' : Nat} (h : opl B k l) (g : opl B k l') : l = l' := by
  rcases h.2 with ⟨e, y⟩ | ⟨e, y⟩ | ⟨e, y | y | y⟩ | ⟨e, y | y⟩ | ⟨e, y | y⟩ <;> rcases g.2 with ⟨e', z⟩ | ⟨e', z⟩ | ⟨e', z | z | z⟩ | ⟨e', z | z⟩ | ⟨e', z | z⟩ <;> first | (exact e.trans e'.symm) | (exact absurd (y.symm.trans z) (by decide))
/-- how many words are among the steps -/
def nWd : List (Int32 × Int32) → Nat
  | [] => 0
  | x :: r => (if x.1 = 2 then 0 else 1) + nWd r
theorem nWd_app (A C : List (Int32 × Int32)) : nWd (A ++ C) = nWd A + nWd C := by
  induction A with
  | nil => simp [nWd]
  | cons x r ih => show _ + nWd (r ++ C) = _ + nWd r + _; rw [ih]; omega
end CRF
