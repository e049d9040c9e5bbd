/-! the start: what the Statement gives, the two makers, the world of ours -/
def scn0 : Nat → Int32 := fun k => if k = 5 then 15 else if k = 6 then 9 else if k = 7 then 3 else if k = 8 then 1 else if k = 13 then 1 else 0
def cnt0 : Nat → Int32 := upd (upd (upd (fun _ => 0) 0 (-1)) 1 (-1)) 2 (-1)
def sht0 : Nat → Int32 := fun k => if k = 1 then -1 else 0
def md0 : Nat → Int32 := fun k => if k = 13 then (-1) else 0
def s0 : Nat → Int32 := upd (upd (upd (upd (upd (fun _ => 0) 3 15) 4 9) 5 3) 6 1) 10 1
def ts0 : Nat → Int32 := upd (upd (upd (upd (fun _ => 0) 0 (-1)) 1 (-1)) 2 (-1)) 3 (-1)
def M0 : Mm := fun i => if i = 1 ∨ i = 13 ∨ i = 25 then scn0 else if i = 3 ∨ i = 15 ∨ i = 27 then cnt0 else if i = 45 ∨ i = 47 ∨ i = 49 ∨ i = 51 ∨ i = 56 ∨ i = 60 ∨ i = 64 ∨ i = 68 ∨ i = 72 then sht0 else if i = 74 then md0 else if i = 75 then s0 else if i = 78 then ts0 else fun _ => 0
abbrev ad0 (q1 q2 : Nat) (u1 u2 : Nat → Nat) : Nat → Nat := fun i => ([q1, u1 0, u1 1, u1 2, u1 3, u1 4, u1 5, u1 6, u1 7, u1 8, u1 9, u1 10, u1 11, u1 12, u1 13, u1 14, u1 15, u1 16, u1 17, u1 18, u1 19, u1 20, u1 21, u1 22, u1 23, u1 24, u1 25, u1 26, u1 27, u1 28, u1 29, u1 30, u1 31, u1 32, u1 33, u1 34, u1 35, u1 36, u1 37, u1 38, u1 39, u1 40, u1 41, u1 42, u1 43, u1 45, u1 46, u1 47, u1 48, u1 49, u1 50, u1 51, u1 52, u1 44, u1 53, u1 54, u1 55, u1 56, u1 57, u1 58, u1 59, u1 60, u1 61, u1 62, u1 63, u1 64, u1 65, u1 66, u1 67, u1 68, u1 69, u1 70, u1 71, u1 72, q2, u2 0, u2 1, u2 2, u2 3, u2 4, u2 5, u2 6, u2 7, u2 8, u2 9, u2 10, u2 11, u2 12, u2 13, u2 14, u2 15, u2 16, u2 17, u2 18] : List Nat).getD i 0
def pos0 : List Nat := [93, 92, 91, 90, 89, 88, 87, 86, 85, 84, 83, 82, 81, 80, 79, 78, 77, 76, 75, 74, 73, 72, 71, 70, 69, 68, 67, 66, 65, 64, 63, 62, 61, 60, 59, 58, 57, 56, 55, 54, 53, 52, 51, 50, 49, 47, 46, 45, 44, 43, 42, 41, 40, 48, 39, 38, 37, 36, 35, 34, 33, 32, 31, 30, 29, 28, 27, 26, 25, 24, 23, 22, 21, 20, 19, 18, 17, 16, 15, 14, 13, 12, 11, 10, 9, 8, 7, 6, 5, 4, 3, 2, 1, 0]
abbrev E00 (D : va_G) (C : Nat → ClassId) (tS : Nat → Nat) (q1 q2 : Nat) (u1 u2 : Nat → Nat) : En := (D, C, ad0 q1 q2 u1 u2, tS, 94)
abbrev ws0 (C : Nat → ClassId) (q1 q2 : Nat) (u1 u2 : Nat → Nat) : va_W := F_X8_init C q2 (F_X7_init C q1 [] u1) u2
set_option maxHeartbeats 4000000 in
set_option maxRecDepth 100000 in
theorem at0_0 {D : va_G} {C : Nat → ClassId} {tS : Nat → Nat} {q1 q2 : Nat} {u1 u2 : Nat → Nat} {H : Heap} : ∀ i : Nat, i < 12 → ∃ e : va_E, (ws0 C q1 q2 u1 u2)[pos0.getD (0 + i) 0]? = some (ad0 q1 q2 u1 u2 (0 + i), e) ∧ (va_at D cls (ad0 q1 q2 u1 u2 (0 + i), e) H → va_at D cls (ad0 q1 q2 u1 u2 (0 + i), sh (E00 D C tS q1 q2 u1 u2) (0 + i) (M0 (0 + i))) H)
  | 0, _ => ⟨_, rfl, fun h => at_e rfl (by rw [sh_1 rfl]; rfl) h⟩
  | 1, _ => ⟨_, rfl, fun h => at_e rfl (by rw [sh_2 rfl]; rfl) h⟩
  | 2, _ => ⟨_, rfl, fun h => by rw [sh_3 rfl]; exact at_q rfl (fun j _ => by show none = lawR _ 0; unfold lawR; rw [if_pos rfl]) h⟩
  | 3, _ => ⟨_, rfl, fun h => by rw [sh_ia 3 rfl]; exact at_e rfl rfl h⟩
  | 4, _ => ⟨_, rfl, fun h => by rw [sh_4 rfl]; exact at_q rfl (fun j hj => by rcases (show j = 0 ∨ j = 1 ∨ j = 2 ∨ j = 3 ∨ j = 4 ∨ j = 5 ∨ j = 6 ∨ j = 7 by omega) with rfl | rfl | rfl | rfl | rfl | rfl | rfl | rfl <;> rfl) h⟩
  | 5, _ => ⟨_, rfl, fun h => at_e rfl (by rw [sh_5 rfl]; rfl) h⟩
  | 6, _ => ⟨_, rfl, fun h => at_e rfl (by rw [sh_5 rfl]; rfl) h⟩
  | 7, _ => ⟨_, rfl, fun h => at_e rfl (by rw [sh_5 rfl]; rfl) h⟩
  | 8, _ => ⟨_, rfl, fun h => at_e rfl (by rw [sh_5 rfl]; rfl) h⟩
  | 9, _ => ⟨_, rfl, fun h => at_e rfl (by rw [sh_5 rfl]; rfl) h⟩
  | 10, _ => ⟨_, rfl, fun h => at_e rfl (by rw [sh_5 rfl]; rfl) h⟩
  | 11, _ => ⟨_, rfl, fun h => at_e rfl (by rw [sh_5 rfl]; rfl) h⟩
  | n + 12, h => absurd h (by omega)
set_option maxHeartbeats 4000000 in
set_option maxRecDepth 100000 in
theorem at0_12 {D : va_G} {C : Nat → ClassId} {tS : Nat → Nat} {q1 q2 : Nat} {u1 u2 : Nat → Nat} {H : Heap} : ∀ i : Nat, i < 12 → ∃ e : va_E, (ws0 C q1 q2 u1 u2)[pos0.getD (12 + i) 0]? = some (ad0 q1 q2 u1 u2 (12 + i), e) ∧ (va_at D cls (ad0 q1 q2 u1 u2 (12 + i), e) H → va_at D cls (ad0 q1 q2 u1 u2 (12 + i), sh (E00 D C tS q1 q2 u1 u2) (12 + i) (M0 (12 + i))) H)
  | 0, _ => ⟨_, rfl, fun h => at_e rfl (by rw [sh_5 rfl]; rfl) h⟩
  | 1, _ => ⟨_, rfl, fun h => at_e rfl (by rw [sh_2 rfl]; rfl) h⟩
  | 2, _ => ⟨_, rfl, fun h => by rw [sh_3 rfl]; exact at_q rfl (fun j _ => by show none = lawR _ 0; unfold lawR; rw [if_pos rfl]) h⟩
  | 3, _ => ⟨_, rfl, fun h => by rw [sh_ia 3 rfl]; exact at_e rfl rfl h⟩
  | 4, _ => ⟨_, rfl, fun h => by rw [sh_4 rfl]; exact at_q rfl (fun j hj => by rcases (show j = 0 ∨ j = 1 ∨ j = 2 ∨ j = 3 ∨ j = 4 ∨ j = 5 ∨ j = 6 ∨ j = 7 by omega) with rfl | rfl | rfl | rfl | rfl | rfl | rfl | rfl <;> rfl) h⟩
  | 5, _ => ⟨_, rfl, fun h => at_e rfl (by rw [sh_5 rfl]; rfl) h⟩
  | 6, _ => ⟨_, rfl, fun h => at_e rfl (by rw [sh_5 rfl]; rfl) h⟩
  | 7, _ => ⟨_, rfl, fun h => at_e rfl (by rw [sh_5 rfl]; rfl) h⟩
  | 8, _ => ⟨_, rfl, fun h => at_e rfl (by rw [sh_5 rfl]; rfl) h⟩
  | 9, _ => ⟨_, rfl, fun h => at_e rfl (by rw [sh_5 rfl]; rfl) h⟩
  | 10, _ => ⟨_, rfl, fun h => at_e rfl (by rw [sh_5 rfl]; rfl) h⟩
  | 11, _ => ⟨_, rfl, fun h => at_e rfl (by rw [sh_5 rfl]; rfl) h⟩
  | n + 12, h => absurd h (by omega)
set_option maxHeartbeats 4000000 in
set_option maxRecDepth 100000 in
theorem at0_24 {D : va_G} {C : Nat → ClassId} {tS : Nat → Nat} {q1 q2 : Nat} {u1 u2 : Nat → Nat} {H : Heap} : ∀ i : Nat, i < 12 → ∃ e : va_E, (ws0 C q1 q2 u1 u2)[pos0.getD (24 + i) 0]? = some (ad0 q1 q2 u1 u2 (24 + i), e) ∧ (va_at D cls (ad0 q1 q2 u1 u2 (24 + i), e) H → va_at D cls (ad0 q1 q2 u1 u2 (24 + i), sh (E00 D C tS q1 q2 u1 u2) (24 + i) (M0 (24 + i))) H)
  | 0, _ => ⟨_, rfl, fun h => at_e rfl (by rw [sh_5 rfl]; rfl) h⟩
  | 1, _ => ⟨_, rfl, fun h => at_e rfl (by rw [sh_2 rfl]; rfl) h⟩
  | 2, _ => ⟨_, rfl, fun h => by rw [sh_3 rfl]; exact at_q rfl (fun j _ => by show none = lawR _ 0; unfold lawR; rw [if_pos rfl]) h⟩
  | 3, _ => ⟨_, rfl, fun h => by rw [sh_ia 3 rfl]; exact at_e rfl rfl h⟩
  | 4, _ => ⟨_, rfl, fun h => by rw [sh_4 rfl]; exact at_q rfl (fun j hj => by rcases (show j = 0 ∨ j = 1 ∨ j = 2 ∨ j = 3 ∨ j = 4 ∨ j = 5 ∨ j = 6 ∨ j = 7 by omega) with rfl | rfl | rfl | rfl | rfl | rfl | rfl | rfl <;> rfl) h⟩
  | 5, _ => ⟨_, rfl, fun h => at_e rfl (by rw [sh_5 rfl]; rfl) h⟩
  | 6, _ => ⟨_, rfl, fun h => at_e rfl (by rw [sh_5 rfl]; rfl) h⟩
  | 7, _ => ⟨_, rfl, fun h => at_e rfl (by rw [sh_5 rfl]; rfl) h⟩
  | 8, _ => ⟨_, rfl, fun h => at_e rfl (by rw [sh_5 rfl]; rfl) h⟩
  | 9, _ => ⟨_, rfl, fun h => at_e rfl (by rw [sh_5 rfl]; rfl) h⟩
  | 10, _ => ⟨_, rfl, fun h => at_e rfl (by rw [sh_5 rfl]; rfl) h⟩
  | 11, _ => ⟨_, rfl, fun h => at_e rfl (by rw [sh_5 rfl]; rfl) h⟩
  | n + 12, h => absurd h (by omega)
set_option maxHeartbeats 4000000 in
set_option maxRecDepth 100000 in
theorem at0_36 {D : va_G} {C : Nat → ClassId} {tS : Nat → Nat} {q1 q2 : Nat} {u1 u2 : Nat → Nat} {H : Heap} : ∀ i : Nat, i < 12 → ∃ e : va_E, (ws0 C q1 q2 u1 u2)[pos0.getD (36 + i) 0]? = some (ad0 q1 q2 u1 u2 (36 + i), e) ∧ (va_at D cls (ad0 q1 q2 u1 u2 (36 + i), e) H → va_at D cls (ad0 q1 q2 u1 u2 (36 + i), sh (E00 D C tS q1 q2 u1 u2) (36 + i) (M0 (36 + i))) H)
  | 0, _ => ⟨_, rfl, fun h => at_e rfl (by rw [sh_5 rfl]; rfl) h⟩
  | 1, _ => ⟨_, rfl, fun h => at_e rfl (by rw [sh_6 rfl]; rfl) h⟩
  | 2, _ => ⟨_, rfl, fun h => at_e rfl (by rw [sh_7 rfl]; rfl) h⟩
  | 3, _ => ⟨_, rfl, fun h => by rw [sh_ia 96 rfl]; exact at_e rfl rfl h⟩
  | 4, _ => ⟨_, rfl, fun h => at_e rfl (by rw [sh_7 rfl]; rfl) h⟩
  | 5, _ => ⟨_, rfl, fun h => by rw [sh_ia 96 rfl]; exact at_e rfl rfl h⟩
  | 6, _ => ⟨_, rfl, fun h => at_e rfl (by rw [sh_7 rfl]; rfl) h⟩
  | 7, _ => ⟨_, rfl, fun h => by rw [sh_ia 60 rfl]; exact at_e rfl rfl h⟩
  | 8, _ => ⟨_, rfl, fun h => by rw [sh_8 rfl]; exact at_q rfl (fun j hj => by rcases (show j = 0 ∨ j = 1 ∨ j = 2 ∨ j = 3 by omega) with rfl | rfl | rfl | rfl <;> rfl) h⟩
  | 9, _ => ⟨_, rfl, fun h => at_e rfl (by rw [sh_9 rfl]; rfl) h⟩
  | 10, _ => ⟨_, rfl, fun h => by rw [sh_ia 24 rfl]; exact at_e rfl rfl h⟩
  | 11, _ => ⟨_, rfl, fun h => at_e rfl (by rw [sh_9 rfl]; rfl) h⟩
  | n + 12, h => absurd h (by omega)
set_option maxHeartbeats 4000000 in
set_option maxRecDepth 100000 in
theorem at0_48 {D : va_G} {C : Nat → ClassId} {tS : Nat → Nat} {q1 q2 : Nat} {u1 u2 : Nat → Nat} {H : Heap} : ∀ i : Nat, i < 12 → ∃ e : va_E, (ws0 C q1 q2 u1 u2)[pos0.getD (48 + i) 0]? = some (ad0 q1 q2 u1 u2 (48 + i), e) ∧ (va_at D cls (ad0 q1 q2 u1 u2 (48 + i), e) H → va_at D cls (ad0 q1 q2 u1 u2 (48 + i), sh (E00 D C tS q1 q2 u1 u2) (48 + i) (M0 (48 + i))) H)
  | 0, _ => ⟨_, rfl, fun h => by rw [sh_ia 24 rfl]; exact at_e rfl rfl h⟩
  | 1, _ => ⟨_, rfl, fun h => at_e rfl (by rw [sh_9 rfl]; rfl) h⟩
  | 2, _ => ⟨_, rfl, fun h => by rw [sh_ia 24 rfl]; exact at_e rfl rfl h⟩
  | 3, _ => ⟨_, rfl, fun h => at_e rfl (by rw [sh_9 rfl]; rfl) h⟩
  | 4, _ => ⟨_, rfl, fun h => by rw [sh_ia 24 rfl]; exact at_e rfl rfl h⟩
  | 5, _ => ⟨_, rfl, fun h => by rw [sh_10 rfl]; exact at_q rfl (fun j hj => by rcases (show j = 0 ∨ j = 1 ∨ j = 2 ∨ j = 3 ∨ j = 4 by omega) with rfl | rfl | rfl | rfl | rfl <;> rfl) h⟩
  | 6, _ => ⟨_, rfl, fun h => at_e rfl (by rw [sh_11 rfl]; rfl) h⟩
  | 7, _ => ⟨_, rfl, fun h => at_e rfl (by rw [sh_5 rfl]; rfl) h⟩
  | 8, _ => ⟨_, rfl, fun h => at_e rfl (by rw [sh_9 rfl]; rfl) h⟩
  | 9, _ => ⟨_, rfl, fun h => by rw [sh_ia 24 rfl]; exact at_e rfl rfl h⟩
  | 10, _ => ⟨_, rfl, fun h => at_e rfl (by rw [sh_11 rfl]; rfl) h⟩
  | 11, _ => ⟨_, rfl, fun h => at_e rfl (by rw [sh_5 rfl]; rfl) h⟩
  | n + 12, h => absurd h (by omega)
set_option maxHeartbeats 4000000 in
set_option maxRecDepth 100000 in
theorem at0_60 {D : va_G} {C : Nat → ClassId} {tS : Nat → Nat} {q1 q2 : Nat} {u1 u2 : Nat → Nat} {H : Heap} : ∀ i : Nat, i < 12 → ∃ e : va_E, (ws0 C q1 q2 u1 u2)[pos0.getD (60 + i) 0]? = some (ad0 q1 q2 u1 u2 (60 + i), e) ∧ (va_at D cls (ad0 q1 q2 u1 u2 (60 + i), e) H → va_at D cls (ad0 q1 q2 u1 u2 (60 + i), sh (E00 D C tS q1 q2 u1 u2) (60 + i) (M0 (60 + i))) H)
  | 0, _ => ⟨_, rfl, fun h => at_e rfl (by rw [sh_9 rfl]; rfl) h⟩
  | 1, _ => ⟨_, rfl, fun h => by rw [sh_ia 24 rfl]; exact at_e rfl rfl h⟩
  | 2, _ => ⟨_, rfl, fun h => at_e rfl (by rw [sh_11 rfl]; rfl) h⟩
  | 3, _ => ⟨_, rfl, fun h => at_e rfl (by rw [sh_5 rfl]; rfl) h⟩
  | 4, _ => ⟨_, rfl, fun h => at_e rfl (by rw [sh_9 rfl]; rfl) h⟩
  | 5, _ => ⟨_, rfl, fun h => by rw [sh_ia 24 rfl]; exact at_e rfl rfl h⟩
  | 6, _ => ⟨_, rfl, fun h => at_e rfl (by rw [sh_11 rfl]; rfl) h⟩
  | 7, _ => ⟨_, rfl, fun h => at_e rfl (by rw [sh_5 rfl]; rfl) h⟩
  | 8, _ => ⟨_, rfl, fun h => at_e rfl (by rw [sh_9 rfl]; rfl) h⟩
  | 9, _ => ⟨_, rfl, fun h => by rw [sh_ia 24 rfl]; exact at_e rfl rfl h⟩
  | 10, _ => ⟨_, rfl, fun h => at_e rfl (by rw [sh_11 rfl]; rfl) h⟩
  | 11, _ => ⟨_, rfl, fun h => at_e rfl (by rw [sh_5 rfl]; rfl) h⟩
  | n + 12, h => absurd h (by omega)
set_option maxHeartbeats 4000000 in
set_option maxRecDepth 100000 in
theorem at0_72 {D : va_G} {C : Nat → ClassId} {tS : Nat → Nat} {q1 q2 : Nat} {u1 u2 : Nat → Nat} {H : Heap} : ∀ i : Nat, i < 12 → ∃ e : va_E, (ws0 C q1 q2 u1 u2)[pos0.getD (72 + i) 0]? = some (ad0 q1 q2 u1 u2 (72 + i), e) ∧ (va_at D cls (ad0 q1 q2 u1 u2 (72 + i), e) H → va_at D cls (ad0 q1 q2 u1 u2 (72 + i), sh (E00 D C tS q1 q2 u1 u2) (72 + i) (M0 (72 + i))) H)
  | 0, _ => ⟨_, rfl, fun h => at_e rfl (by rw [sh_9 rfl]; rfl) h⟩
  | 1, _ => ⟨_, rfl, fun h => by rw [sh_ia 24 rfl]; exact at_e rfl rfl h⟩
  | 2, _ => ⟨_, rfl, fun h => at_e rfl (by rw [sh_12 rfl]; rfl) h⟩
  | 3, _ => ⟨_, rfl, fun h => by rw [sh_ia 3108 rfl]; exact at_e rfl rfl h⟩
  | 4, _ => ⟨_, rfl, fun h => by rw [sh_ia 3108 rfl]; exact at_e rfl rfl h⟩
  | 5, _ => ⟨_, rfl, fun h => by rw [sh_ia 3108 rfl]; exact at_e rfl rfl h⟩
  | 6, _ => ⟨_, rfl, fun h => by rw [sh_ia 4 rfl]; exact at_e rfl rfl h⟩
  | 7, _ => ⟨_, rfl, fun h => by rw [sh_ia 4 rfl]; exact at_e rfl rfl h⟩
  | 8, _ => ⟨_, rfl, fun h => by rw [sh_ia 96 rfl]; exact at_e rfl rfl h⟩
  | 9, _ => ⟨_, rfl, fun h => by rw [sh_ia 5 rfl]; exact at_e rfl rfl h⟩
  | 10, _ => ⟨_, rfl, fun h => by rw [sh_ia 5 rfl]; exact at_e rfl rfl h⟩
  | 11, _ => ⟨_, rfl, fun h => by rw [sh_ia 5 rfl]; exact at_e rfl rfl h⟩
  | n + 12, h => absurd h (by omega)
set_option maxHeartbeats 4000000 in
set_option maxRecDepth 100000 in
theorem at0_84 {D : va_G} {C : Nat → ClassId} {tS : Nat → Nat} {q1 q2 : Nat} {u1 u2 : Nat → Nat} {H : Heap} : ∀ i : Nat, i < 10 → ∃ e : va_E, (ws0 C q1 q2 u1 u2)[pos0.getD (84 + i) 0]? = some (ad0 q1 q2 u1 u2 (84 + i), e) ∧ (va_at D cls (ad0 q1 q2 u1 u2 (84 + i), e) H → va_at D cls (ad0 q1 q2 u1 u2 (84 + i), sh (E00 D C tS q1 q2 u1 u2) (84 + i) (M0 (84 + i))) H)
  | 0, _ => ⟨_, rfl, fun h => by rw [sh_ia 5 rfl]; exact at_e rfl rfl h⟩
  | 1, _ => ⟨_, rfl, fun h => by rw [sh_ia 120 rfl]; exact at_e rfl rfl h⟩
  | 2, _ => ⟨_, rfl, fun h => by rw [sh_ia 8 rfl]; exact at_e rfl rfl h⟩
  | 3, _ => ⟨_, rfl, fun h => by rw [sh_ia 108 rfl]; exact at_e rfl rfl h⟩
  | 4, _ => ⟨_, rfl, fun h => by rw [sh_ia 96 rfl]; exact at_e rfl rfl h⟩
  | 5, _ => ⟨_, rfl, fun h => by rw [sh_ia 128 rfl]; exact at_e rfl rfl h⟩
  | 6, _ => ⟨_, rfl, fun h => by rw [sh_ia 100 rfl]; exact at_e rfl rfl h⟩
  | 7, _ => ⟨_, rfl, fun h => by rw [sh_ia 24 rfl]; exact at_e rfl rfl h⟩
  | 8, _ => ⟨_, rfl, fun h => by rw [sh_ia 60 rfl]; exact at_e rfl rfl h⟩
  | 9, _ => ⟨_, rfl, fun h => by rw [sh_ia 60 rfl]; exact at_e rfl rfl h⟩
  | n + 10, h => absurd h (by omega)
theorem at0 {D : va_G} {C : Nat → ClassId} {tS : Nat → Nat} {q1 q2 : Nat} {u1 u2 : Nat → Nat} {H : Heap} (i : Nat) (hi : i < 94) : ∃ e : va_E, (ws0 C q1 q2 u1 u2)[pos0.getD i 0]? = some (ad0 q1 q2 u1 u2 i, e) ∧ (va_at D cls (ad0 q1 q2 u1 u2 i, e) H → va_at D cls (ad0 q1 q2 u1 u2 i, sh (E00 D C tS q1 q2 u1 u2) i (M0 i)) H) := by
  by_cases c0 : i < 12
  · obtain ⟨j, rfl⟩ : ∃ j : Nat, i = 0 + j := ⟨i - 0, by omega⟩
    exact at0_0 j (by omega)
  by_cases c12 : i < 24
  · obtain ⟨j, rfl⟩ : ∃ j : Nat, i = 12 + j := ⟨i - 12, by omega⟩
    exact at0_12 j (by omega)
  by_cases c24 : i < 36
  · obtain ⟨j, rfl⟩ : ∃ j : Nat, i = 24 + j := ⟨i - 24, by omega⟩
    exact at0_24 j (by omega)
  by_cases c36 : i < 48
  · obtain ⟨j, rfl⟩ : ∃ j : Nat, i = 36 + j := ⟨i - 36, by omega⟩
    exact at0_36 j (by omega)
  by_cases c48 : i < 60
  · obtain ⟨j, rfl⟩ : ∃ j : Nat, i = 48 + j := ⟨i - 48, by omega⟩
    exact at0_48 j (by omega)
  by_cases c60 : i < 72
  · obtain ⟨j, rfl⟩ : ∃ j : Nat, i = 60 + j := ⟨i - 60, by omega⟩
    exact at0_60 j (by omega)
  by_cases c72 : i < 84
  · obtain ⟨j, rfl⟩ : ∃ j : Nat, i = 72 + j := ⟨i - 72, by omega⟩
    exact at0_72 j (by omega)
  by_cases c84 : i < 94
  · obtain ⟨j, rfl⟩ : ∃ j : Nat, i = 84 + j := ⟨i - 84, by omega⟩
    exact at0_84 j (by omega)
  exact absurd hi (by omega)
theorem wd0 {D : va_G} {C : Nat → ClassId} {tS : Nat → Nat} {q1 q2 : Nat} {u1 u2 : Nat → Nat} {H : Heap} (hP : va_P D cls (ws0 C q1 q2 u1 u2) H) : va_P D cls (wd (E00 D C tS q1 q2 u1 u2) M0) H := by
  intro k q hk
  have hkl : k < 94 := by
    have := (List.getElem?_eq_some_iff.mp hk).1
    rw [wd_len] at this
    exact this
  rw [wd_get (by exact hkl)] at hk
  cases hk
  obtain ⟨e, h1, h2⟩ := at0 (D := D) (C := C) (tS := tS) (q1 := q1) (q2 := q2) (u1 := u1) (u2 := u2) (H := H) k hkl
  exact h2 (hP _ _ h1)
theorem pos0_inj : ∀ i : Nat, i < 94 → ∀ j : Nat, j < 94 → pos0.getD i 0 = pos0.getD j 0 → i = j := by decide +kernel
theorem aD0 {D : va_G} {C : Nat → ClassId} {tS : Nat → Nat} {q1 q2 : Nat} {u1 u2 : Nat → Nat} {A : Nat → Prop} (hD : va_D A (ws0 C q1 q2 u1 u2)) : aD A (E00 D C tS q1 q2 u1 u2) := by
  refine ⟨fun i j hi hj e => ?_, fun i hi => ?_⟩
  · obtain ⟨x, h1, -⟩ := at0 (D := D) (C := C) (tS := tS) (q1 := q1) (q2 := q2) (u1 := u1) (u2 := u2) (H := #[]) i hi
    obtain ⟨y, h2, -⟩ := at0 (D := D) (C := C) (tS := tS) (q1 := q1) (q2 := q2) (u1 := u1) (u2 := u2) (H := #[]) j hj
    exact pos0_inj i hi j hj (hD.1 _ _ _ _ h1 h2 e)
  · obtain ⟨x, h1, -⟩ := at0 (D := D) (C := C) (tS := tS) (q1 := q1) (q2 := q2) (u1 := u1) (u2 := u2) (H := #[]) i hi
    exact hD.2 _ _ h1
theorem st_ABOVE {args : Array Value} {s : State} {A : Nat → Prop} (hs : ∀ c ∈ flatC (Jvm.Cond.and given_1 narrow_1), c.before args s = true) (hts : ∀ w ∈ lw_tbl, w.before args s = true) (hA : ∀ a : Nat, a < s.heap.size → ¬ A a) : ∃ t : Nat, sArr "ABOVE" t 6 [-1, 0, 0, 1, 2, 0] A s s.heap := by
  have hall : ∀ j : Nat, j < 6 → (Cond.eq (.elem (.static "ShyWell" "ABOVE" "[I") (.int (Int32.ofNat j))) (.int (([-1, 0, 0, 1, 2, 0] : List Int32).getD j 0))) ∈ flatC (Jvm.Cond.and given_1 narrow_1) := by decide +kernel
  obtain ⟨t, h1, h2⟩ := va_Tof (tm := .static "ShyWell" "ABOVE" "[I") (ty := .int) (N := 6) (f := fun j => .int (([-1, 0, 0, 1, 2, 0] : List Int32).getD j 0)) (A := A) (by decide) (hs _ (by decide +kernel)) (va_eqt (hs (Cond.eq (.length (.static "ShyWell" "ABOVE" "[I")) (.int 6)) (by decide +kernel))) (fun j hj => va_eqt (hs _ (hall j hj))) hA
  exact ⟨t, va_Zref (hts (Cond.laysStatic "ShyWell" "ABOVE" "[I") (by decide +kernel)) (hts (Cond.initialized "ShyWell") (by decide +kernel)) h1 hA, h2⟩
theorem st_HABIT_LEAST {args : Array Value} {s : State} {A : Nat → Prop} (hs : ∀ c ∈ flatC (Jvm.Cond.and given_1 narrow_1), c.before args s = true) (hts : ∀ w ∈ lw_tbl, w.before args s = true) (hA : ∀ a : Nat, a < s.heap.size → ¬ A a) : ∃ t : Nat, sArr "HABIT_LEAST" t 5 [0, 0, 1, 0, 0] A s s.heap := by
  have hall : ∀ j : Nat, j < 5 → (Cond.eq (.elem (.static "ShyWell" "HABIT_LEAST" "[I") (.int (Int32.ofNat j))) (.int (([0, 0, 1, 0, 0] : List Int32).getD j 0))) ∈ flatC (Jvm.Cond.and given_1 narrow_1) := by decide +kernel
  obtain ⟨t, h1, h2⟩ := va_Tof (tm := .static "ShyWell" "HABIT_LEAST" "[I") (ty := .int) (N := 5) (f := fun j => .int (([0, 0, 1, 0, 0] : List Int32).getD j 0)) (A := A) (by decide) (hs _ (by decide +kernel)) (va_eqt (hs (Cond.eq (.length (.static "ShyWell" "HABIT_LEAST" "[I")) (.int 5)) (by decide +kernel))) (fun j hj => va_eqt (hs _ (hall j hj))) hA
  exact ⟨t, va_Zref (hts (Cond.laysStatic "ShyWell" "HABIT_LEAST" "[I") (by decide +kernel)) (hts (Cond.initialized "ShyWell") (by decide +kernel)) h1 hA, h2⟩
theorem st_HABIT_MOST {args : Array Value} {s : State} {A : Nat → Prop} (hs : ∀ c ∈ flatC (Jvm.Cond.and given_1 narrow_1), c.before args s = true) (hts : ∀ w ∈ lw_tbl, w.before args s = true) (hA : ∀ a : Nat, a < s.heap.size → ¬ A a) : ∃ t : Nat, sArr "HABIT_MOST" t 5 [5, 59, 30, 9, 9] A s s.heap := by
  have hall : ∀ j : Nat, j < 5 → (Cond.eq (.elem (.static "ShyWell" "HABIT_MOST" "[I") (.int (Int32.ofNat j))) (.int (([5, 59, 30, 9, 9] : List Int32).getD j 0))) ∈ flatC (Jvm.Cond.and given_1 narrow_1) := by decide +kernel
  obtain ⟨t, h1, h2⟩ := va_Tof (tm := .static "ShyWell" "HABIT_MOST" "[I") (ty := .int) (N := 5) (f := fun j => .int (([5, 59, 30, 9, 9] : List Int32).getD j 0)) (A := A) (by decide) (hs _ (by decide +kernel)) (va_eqt (hs (Cond.eq (.length (.static "ShyWell" "HABIT_MOST" "[I")) (.int 5)) (by decide +kernel))) (fun j hj => va_eqt (hs _ (hall j hj))) hA
  exact ⟨t, va_Zref (hts (Cond.laysStatic "ShyWell" "HABIT_MOST" "[I") (by decide +kernel)) (hts (Cond.initialized "ShyWell") (by decide +kernel)) h1 hA, h2⟩
theorem st_WELL_LEAST {args : Array Value} {s : State} {A : Nat → Prop} (hs : ∀ c ∈ flatC (Jvm.Cond.and given_1 narrow_1), c.before args s = true) (hts : ∀ w ∈ lw_tbl, w.before args s = true) (hA : ∀ a : Nat, a < s.heap.size → ¬ A a) : ∃ t : Nat, sArr "WELL_LEAST" t 5 [1, 0, 0, 1, 0] A s s.heap := by
  have hall : ∀ j : Nat, j < 5 → (Cond.eq (.elem (.static "ShyWell" "WELL_LEAST" "[I") (.int (Int32.ofNat j))) (.int (([1, 0, 0, 1, 0] : List Int32).getD j 0))) ∈ flatC (Jvm.Cond.and given_1 narrow_1) := by decide +kernel
  obtain ⟨t, h1, h2⟩ := va_Tof (tm := .static "ShyWell" "WELL_LEAST" "[I") (ty := .int) (N := 5) (f := fun j => .int (([1, 0, 0, 1, 0] : List Int32).getD j 0)) (A := A) (by decide) (hs _ (by decide +kernel)) (va_eqt (hs (Cond.eq (.length (.static "ShyWell" "WELL_LEAST" "[I")) (.int 5)) (by decide +kernel))) (fun j hj => va_eqt (hs _ (hall j hj))) hA
  exact ⟨t, va_Zref (hts (Cond.laysStatic "ShyWell" "WELL_LEAST" "[I") (by decide +kernel)) (hts (Cond.initialized "ShyWell") (by decide +kernel)) h1 hA, h2⟩
theorem st_WELL_MOST {args : Array Value} {s : State} {A : Nat → Prop} (hs : ∀ c ∈ flatC (Jvm.Cond.and given_1 narrow_1), c.before args s = true) (hts : ∀ w ∈ lw_tbl, w.before args s = true) (hA : ∀ a : Nat, a < s.heap.size → ¬ A a) : ∃ t : Nat, sArr "WELL_MOST" t 5 [60, 99, 99, 9, 100] A s s.heap := by
  have hall : ∀ j : Nat, j < 5 → (Cond.eq (.elem (.static "ShyWell" "WELL_MOST" "[I") (.int (Int32.ofNat j))) (.int (([60, 99, 99, 9, 100] : List Int32).getD j 0))) ∈ flatC (Jvm.Cond.and given_1 narrow_1) := by decide +kernel
  obtain ⟨t, h1, h2⟩ := va_Tof (tm := .static "ShyWell" "WELL_MOST" "[I") (ty := .int) (N := 5) (f := fun j => .int (([60, 99, 99, 9, 100] : List Int32).getD j 0)) (A := A) (by decide) (hs _ (by decide +kernel)) (va_eqt (hs (Cond.eq (.length (.static "ShyWell" "WELL_MOST" "[I")) (.int 5)) (by decide +kernel))) (fun j hj => va_eqt (hs _ (hall j hj))) hA
  exact ⟨t, va_Zref (hts (Cond.laysStatic "ShyWell" "WELL_MOST" "[I") (by decide +kernel)) (hts (Cond.initialized "ShyWell") (by decide +kernel)) h1 hA, h2⟩
def tm0 : Nat → Term := fun i => Term.string "ShyWell$Reader" (([75, 81, 83, 125, 127, 129] : List Nat).getD i 0)
theorem st_str {args : Array Value} {s : State} {A : Nat → Prop} (hs : ∀ c ∈ flatC (Jvm.Cond.and given_1 narrow_1), c.before args s = true) (hA : ∀ a : Nat, a < s.heap.size → ¬ A a) : ∃ adK adV : Nat → Nat, vk_S 6 sLen sByt adK adV A s s.heap ∧ ∀ i : Nat, i < 6 → (tm0 i).eval args s none [] s = some (.ref (adK i)) := by
  have a1 : ∀ i : Nat, i < 6 → (Cond.exactly (tm0 i) "java/lang/String") ∈ flatC (Jvm.Cond.and given_1 narrow_1) := by decide +kernel
  have a2 : ∀ i : Nat, i < 6 → (Cond.eq (.field (tm0 i) "java/lang/String" "coder" "B") (.int 0)) ∈ flatC (Jvm.Cond.and given_1 narrow_1) := by decide +kernel
  have a3 : ∀ i : Nat, i < 6 → (Cond.arrayOf (.field (tm0 i) "java/lang/String" "value" "[B") .byte) ∈ flatC (Jvm.Cond.and given_1 narrow_1) := by decide +kernel
  have a4 : ∀ i : Nat, i < 6 → (Cond.eq (.length (.field (tm0 i) "java/lang/String" "value" "[B")) (.int (Int32.ofNat (sLen.getD i 0)))) ∈ flatC (Jvm.Cond.and given_1 narrow_1) := by decide +kernel
  have a5 : ∀ i : Nat, i < 6 → ∀ j : Nat, j < sLen.getD i 0 → (Cond.eq (.elem (.field (tm0 i) "java/lang/String" "value" "[B") (.int (Int32.ofNat j))) (.int ((sByt.getD i []).getD j 0))) ∈ flatC (Jvm.Cond.and given_1 narrow_1) := by decide +kernel
  have a6 : ∀ i : Nat, i < 6 → ∀ j : Nat, j < 6 → i ≠ j → (Cond.not (Cond.eq (tm0 i) (tm0 j)) ∈ flatC (Jvm.Cond.and given_1 narrow_1) ∨ Cond.not (Cond.eq (tm0 j) (tm0 i)) ∈ flatC (Jvm.Cond.and given_1 narrow_1)) := by decide +kernel
  exact vk_Sof (tm := tm0) (by decide) (fun i hi => hs _ (a1 i hi)) (fun i hi => hs _ (a2 i hi)) (fun i hi => hs _ (a3 i hi)) (fun i hi => hs _ (a4 i hi)) (fun i hi j hj => hs _ (a5 i hi j hj)) (fun i j hi hj hne => (a6 i hi j hj hne).elim (fun h => Or.inl (hs _ h)) (fun h => Or.inr (hs _ h))) hA
theorem st_all {args : Array Value} {s : State} {A : Nat → Prop} (hs : ∀ c ∈ flatC (Jvm.Cond.and given_1 narrow_1), c.before args s = true) (hts : ∀ w ∈ lw_tbl, w.before args s = true) (hA : ∀ a : Nat, a < s.heap.size → ¬ A a) : ∃ tS : Nat → Nat, Sta tS A s s.heap ∧ Str tS s := by
  obtain ⟨t0, h0⟩ := st_ABOVE hs hts hA
  obtain ⟨t1, h1⟩ := st_HABIT_LEAST hs hts hA
  obtain ⟨t2, h2⟩ := st_HABIT_MOST hs hts hA
  obtain ⟨t3, h3⟩ := st_WELL_LEAST hs hts hA
  obtain ⟨t4, h4⟩ := st_WELL_MOST hs hts hA
  obtain ⟨adK, adV, h5, h6⟩ := st_str hs hA
  have e1 : ∀ i : Nat, i < 6 → (fun k : Nat => if k < 10 then ([t0, t1, t2, t3, t4] : List Nat).getD k 0 else if k < 20 then adK (k - 10) else adV (k - 20)) (10 + i) = adK i := by
    intro i hi
    show (if 10 + i < 10 then _ else if 10 + i < 20 then _ else _) = _
    rw [if_neg (by omega), if_pos (by omega), Nat.add_sub_cancel_left]
  have e2 : ∀ i : Nat, i < 6 → (fun k : Nat => if k < 10 then ([t0, t1, t2, t3, t4] : List Nat).getD k 0 else if k < 20 then adK (k - 10) else adV (k - 20)) (20 + i) = adV i := by
    intro i hi
    show (if 20 + i < 10 then _ else if 20 + i < 20 then _ else _) = _
    rw [if_neg (by omega), if_neg (by omega), Nat.add_sub_cancel_left]
  have e3 : ∀ i : Nat, i < 6 → (tm0 i).eval #[] s none [] s = some (.ref (adK i)) := fun i hi => by
    rw [← h6 i hi]
    rfl
  refine ⟨fun k => if k < 10 then ([t0, t1, t2, t3, t4] : List Nat).getD k 0 else if k < 20 then adK (k - 10) else adV (k - 20), ⟨⟨h0, h1, h2, h3, h4⟩, ⟨fun i hi => ?_, fun i j hi hj e => h5.2 i j hi hj (by rw [← e1 i hi, ← e1 j hj]; exact e)⟩, ?_, ?_⟩, ?_⟩
  · rw [e1 i hi, e2 i hi]
    exact h5.1 i hi
  · exact va_Zof (hts (Cond.laysStatic "java/lang/String" "COMPACT_STRINGS" "Z") (by decide +kernel)) (hts (Cond.initialized "java/lang/String") (by decide +kernel)) (va_eqi (hs _ (by decide +kernel))) hA
  · exact va_Zqof (hts (Cond.laysStatic "jdk/internal/util/Preconditions" "SIOOBE_FORMATTER" "Ljava/util/function/BiFunction;") (by decide +kernel)) (hts (Cond.initialized "jdk/internal/util/Preconditions") (by decide +kernel)) (hs _ (by decide +kernel)) hA
  · exact ⟨vk_R.of (hts (Cond.stringRef RX1 75 "leave") (by decide +kernel)) (e3 0 (by decide)), vk_R.of (hts (Cond.stringRef RX1 81 "stay") (by decide +kernel)) (e3 1 (by decide)), vk_R.of (hts (Cond.stringRef RX1 83 "fine") (by decide +kernel)) (e3 2 (by decide)), vk_R.of (hts (Cond.stringRef RX1 125 "tsa") (by decide +kernel)) (e3 3 (by decide)), vk_R.of (hts (Cond.stringRef RX1 127 "awn") (by decide +kernel)) (e3 4 (by decide)), vk_R.of (hts (Cond.stringRef RX1 129 "ge") (by decide +kernel)) (e3 5 (by decide))⟩
/-- the classes' numbers, and those of the rows -/
theorem st_K {args : Array Value} {s : State} (hts : ∀ w ∈ lw_tbl, w.before args s = true) : ∃ (D : va_G) (C : Nat → ClassId), va_K D cls (tyl C) s := by
  obtain ⟨c0, iS0, hKn0⟩ := u_known (C := RX0) (T := TX0) (N := 13) (n := 13) hts (fun w hw => (List.mem_filter.mp (iw_0 w hw)).1) (hts (.instantiable RX0 13) (by decide +kernel))
  obtain ⟨c1, iS1, hKn1⟩ := u_known (C := RX1) (T := TX1) (N := 7) (n := 7) hts (fun w hw => (List.mem_filter.mp (iw_1 w hw)).1) (hts (.instantiable RX1 7) (by decide +kernel))
  obtain ⟨c2, iS2, hKn2⟩ := u_known (C := RX2) (T := TX2) (N := 2) (n := 2) hts (fun w hw => (List.mem_filter.mp (iw_2 w hw)).1) (hts (.instantiable RX2 2) (by decide +kernel))
  obtain ⟨c3, iS3, hKn3⟩ := u_known (C := RX3) (T := TX3) (N := 14) (n := 14) hts (fun w hw => (List.mem_filter.mp (iw_3 w hw)).1) (hts (.instantiable RX3 14) (by decide +kernel))
  obtain ⟨c4, iS4, hKn4⟩ := u_known (C := RX4) (T := TX4) (N := 3) (n := 3) hts (fun w hw => (List.mem_filter.mp (iw_4 w hw)).1) (hts (.instantiable RX4 3) (by decide +kernel))
  obtain ⟨c5, iS5, hKn5⟩ := u_known (C := RX5) (T := TX5) (N := 4) (n := 4) hts (fun w hw => (List.mem_filter.mp (iw_5 w hw)).1) (hts (.instantiable RX5 4) (by decide +kernel))
  obtain ⟨c6, iS6, hKn6⟩ := u_known (C := RX6) (T := TX6) (N := 4) (n := 4) hts (fun w hw => (List.mem_filter.mp (iw_6 w hw)).1) (hts (.instantiable RX6 4) (by decide +kernel))
  obtain ⟨c7, iS7, hKn7⟩ := u_known (C := RX7) (T := TX7) (N := 9) (n := 9) hts (fun w hw => (List.mem_filter.mp (iw_7 w hw)).1) (hts (.instantiable RX7 9) (by decide +kernel))
  obtain ⟨c8, iS8, hKn8⟩ := u_known (C := RX8) (T := TX8) (N := 34) (n := 34) hts (fun w hw => (List.mem_filter.mp (iw_8 w hw)).1) (hts (.instantiable RX8 34) (by decide +kernel))
  obtain ⟨k0, z0, m0, a1, a2, a3⟩ := Cond.arrayClass_spec (hts (Cond.arrayClass .int) (by decide +kernel))
  obtain ⟨m1, k1, z1, b1, b2, b3, b4, b5⟩ := Cond.arrayOver_spec (hts (Cond.arrayOver (.object "ShyWell$Comer")) (by decide +kernel))
  obtain ⟨m2, k2, z2, f1, f2, f3, f4, f5⟩ := Cond.arrayOver_spec (hts (Cond.arrayOver (.object "ShyWell$Text")) (by decide +kernel))
  obtain ⟨m3, k3, z3, g1, g2, g3, g4, g5⟩ := Cond.arrayOver_spec (hts (Cond.arrayOver (.object "ShyWell$Sheet")) (by decide +kernel))
  obtain ⟨m4, k4, z4, i1, i2, i3, i4, i5⟩ := Cond.arrayOver_spec (hts (Cond.arrayOver (.object "ShyWell$Slot")) (by decide +kernel))
  refine ⟨(fun k => if k = 0 then c0 else if k = 1 then c1 else if k = 2 then c2 else if k = 3 then c3 else if k = 4 then c4 else if k = 5 then c5 else if k = 6 then c6 else if k = 7 then c7 else c8, fun k => if k = 0 then iS0 else if k = 1 then iS1 else if k = 2 then iS2 else if k = 3 then iS3 else if k = 4 then iS4 else if k = 5 then iS5 else if k = 6 then iS6 else if k = 7 then iS7 else iS8), fun k => ([k0, k1, k2, k3, k4] : List Nat).getD k 0, ?_, ?_⟩
  · intro k q hq
    match k, hq with
    | 0, hq => cases hq; exact hKn0
    | 1, hq => cases hq; exact hKn1
    | 2, hq => cases hq; exact hKn2
    | 3, hq => cases hq; exact hKn3
    | 4, hq => cases hq; exact hKn4
    | 5, hq => cases hq; exact hKn5
    | 6, hq => cases hq; exact hKn6
    | 7, hq => cases hq; exact hKn7
    | 8, hq => cases hq; exact hKn8
    | k + 9, hq => simp [cls] at hq
  · intro k q hq
    match k, hq with
    | 0, hq => cases hq; exact ⟨fun N z => ⟨fun k h => (by cases h), z0, a2, m0, a3⟩, a1⟩
    | 1, hq => cases hq; exact ⟨fun N z => ⟨fun k h => (by cases h), z1, b3, m1, b4⟩, z1, m1, b3, b4, b1, b5⟩
    | 2, hq => cases hq; exact ⟨fun N z => ⟨fun k h => (by cases h), z2, f3, m2, f4⟩, z2, m2, f3, f4, f1, f5⟩
    | 3, hq => cases hq; exact ⟨fun N z => ⟨fun k h => (by cases h), z3, g3, m3, g4⟩, z3, m3, g3, g4, g1, g5⟩
    | 4, hq => cases hq; exact ⟨fun N z => ⟨fun k h => (by cases h), z4, i3, m4, i4⟩, z4, m4, i3, i4, i1, i5⟩
    | k + 5, hq => simp at hq
set_option maxHeartbeats 4000000 in
set_option maxRecDepth 100000 in
/-- from the entry to the loop -/
theorem start_walk {p : Program} {e : Env} {s : State} {m : MethodId} {below : List Frame} {meth : Method} {c : Code} (l : Launch) {b L : Nat} {xs : Nat → Int32} (hwl : ∃ k : Nat, k ≤ 1000 ∧ wl_law L xs k 94 M0 0) (C0 : lw_At p s m meth c b L xs) : W p l e room_1 s m #[Value.ref b] below meth c s.heap [] 0 0 (lw_Z below #[Value.ref b] s) (entryFrame m ([Value.ref b] : List Value).toArray 4) := by
  obtain ⟨hx, hb, hr, hml, hown, hts, hX, hbl, hlocks, hgv⟩ := id C0
  have hs := flat_of_before _ hgv
  have hA : ∀ a : Nat, a < s.heap.size → ¬ (fun q : Nat => s.heap.size ≤ q) a := fun a h => Nat.not_le.mpr h
  obtain ⟨tS, hSta, hStr⟩ := st_all (A := fun q : Nat => s.heap.size ≤ q) hs hts hA
  obtain ⟨D, C, hK⟩ := st_K hts
  have hao : AO4 s := ⟨va_AO.of (hts (Cond.arrayOver (.object "ShyWell$Comer")) (by decide +kernel)), va_AO.of (hts (Cond.arrayOver (.object "ShyWell$Text")) (by decide +kernel)), va_AO.of (hts (Cond.arrayOver (.object "ShyWell$Sheet")) (by decide +kernel)), va_AO.of (hts (Cond.arrayOver (.object "ShyWell$Slot")) (by decide +kernel))⟩
  have hN : Nst s := by
    intro w hw
    have h2 := (List.mem_filter.mp hw).2
    have ht : w.onTables = true := by
      cases w <;> first | rfl | (simp [isNest] at h2)
    exact va_Nw.of ht (hts w (List.mem_filter.mp hw).1)
  have htG : ∀ w ∈ tbG, w.before #[Value.ref b] s = true := fun w hw => hts w (List.mem_filter.mp hw).1
  have X : CV (gl p l e s m b below meth c 0 0) code RL ret meth.name 300 600000 7302250 D C (fun q : Nat => s.heap.size ≤ q) 4 := ⟨hx, hb, hml, hown, htG, hN, hK, hao, fun _ h => h, ⟨hr, hlocks, rfl⟩, ⟨Nat.le_of_ble_eq_true rfl, Nat.le_of_ble_eq_true rfl⟩, ⟨Nat.le_refl _, Nat.le_refl _⟩⟩
  have hmain : AV (gl p l e s m b below meth c 0 0) D (fun q : Nat => s.heap.size ≤ q) 4 (lw_Z below #[Value.ref b] s) 0 [(0, .ref b)] [] [] 0 0 := by
    refine av_new (ci := 7) (fs := [.null, .null, .null, .int 0, .null, .null, .null, .null, .null]) X dL_law_0 kw115 kw116 kw98 rfl iw_7 tyX7 tyX7_ok (by decide +kernel) (by decide) (by decide) (fun q1 => ?_)
    refine av_dup X dL_law_3 rfl ?_
    refine av_ci X [] [.ref q1] v_X7_init cal_yX7_init kw117 kw118 rfl (by decide) rfl rfl (Nat.le_of_ble_eq_true rfl) dL_law_4 (by decide) (by decide) (fun u1 => ?_)
    refine av_astore_n (lv' := [(1, .ref q1), (0, .ref b)]) X dL_law_7 (by decide) rfl ?_
    refine av_new (ci := 8) (fs := [.null, .null, .null, .int 0, .null, .null, .null, .null, .null, .null, .null, .null, .null, .int 0, .int 0, .null, .null, .int 0, .int 0, .int 0, .int 0, .int 0, .int 0, .int 0, .int 0, .int 0, .int 0, .int 0, .null, .null, .null, .null, .int 0, .null]) X dL_law_8 kw964 kw965 kw106 rfl iw_8 tyX8 tyX8_ok (by decide +kernel) (by decide) (by decide) (fun q2 => ?_)
    refine av_dup X dL_law_11 rfl ?_
    refine av_ci X [] [.ref q2] v_X8_init cal_yX8_init kw966 kw967 rfl (by decide) rfl rfl (Nat.le_of_ble_eq_true rfl) dL_law_12 (by decide) (by decide) (fun u2 => ?_)
    refine av_astore_n (lv' := [(2, .ref q2), (1, .ref q1), (0, .ref b)]) X dL_law_15 (by decide) rfl ?_
    refine av_iconst (v := 0) X dL_law_16 (by decide) ?_
    refine av_istore_n (lv' := [(3, .int 0), (2, .ref q2), (1, .ref q1), (0, .ref b)]) X dL_law_17 (by decide) rfl ?_
    intro H locs ls hP hD hS hl
    obtain ⟨k, hk, hw⟩ := hwl
    have haD : aD (fun q : Nat => s.heap.size ≤ q) (E00 D C tS q1 q2 u1 u2) := aD0 hD
    have X2 : CX (gl p l e s m b below meth c 94 11226) code RL ret 300 (E00 D C tS q1 q2 u1 u2) (fun q : Nat => s.heap.size ≤ q) 4 := ⟨hx, hb, hml, hown, htG, hN, hK, haD, hSta, hStr, ⟨Nat.le_refl _, Nat.le_of_ble_eq_true rfl⟩, fun _ h => h, ⟨hr, hlocks⟩, ⟨Nat.le_of_ble_eq_true rfl, Nat.le_of_ble_eq_true rfl⟩, ⟨Nat.le_of_ble_eq_true rfl, Nat.le_of_ble_eq_true rfl⟩⟩
    have hgo := lw_law (p := p) (l := l) (e := e) (m := m) (below := below) (meth := meth) (c := c) ⟨hX, hbl, Nat.not_le.mpr hbl⟩ hao k (E00 D C tS q1 q2 u1 u2) 94 11226 M0 0 (by omega) (by omega) X2 hw
    exact hgo H locs ls (wd0 hP) hS (lv_sub hl [3, 2, 1, 0] rfl)
  have hl := lv_entry ([.ref b]) (n := 4) (Nat.le_of_ble_eq_true rfl)
  rw [lg_entry_eq]
  exact hmain s.heap [] _ (fun k q h => by simp at h) ⟨fun i j p q h => by simp at h, fun k q h => by simp at h⟩ va_S.rf hl
