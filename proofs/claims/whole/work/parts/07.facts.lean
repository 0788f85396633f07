/-! Facts of the tables and of the world behind the two constructors. -/
def Z1 : Sh := [(12, 12, [some 1, some 17, some 32, some 34, some 165, some 184, some 186, some 198, some 206, some 222, some 237, none]), (3, 20, [none, none, none, none, none, some 2, some 3, some 4, some 5, some 6, some 7, some 8, some 9, some 10, some 11, some 12, some 13, some 14, some 15, some 16]), (0, 12, []), (0, 12, []), (0, 12, []), (0, 12, []), (0, 12, []), (0, 12, []), (0, 12, []), (0, 12, []), (0, 12, []), (0, 28, []), (0, 28, []), (0, 28, []), (0, 8, []), (0, 8, []), (0, 8, []), (8, 9, [some 18, some 25, some 26, some 27, some 28, none, some 29, some 30, some 31]), (5, 8, [some 19, none, none, some 20, some 21, some 22, some 23, some 24]), (0, 400, []), (0, 16, []), (0, 16, []), (0, 16, []), (0, 10, []), (0, 64, []), (0, 12, []), (0, 144, []), (0, 144, []), (0, 144, []), (0, 320, []), (0, 8, []), (0, 8, []), (2, 2, [some 33, none]), (0, 1000, []), (4, 4, [some 35, some 36, none, none]), (1, 8, [some 37, some 53, some 69, some 85, some 101, some 117, some 133, some 149]), (0, 8, []), (3, 20, [none, none, none, none, none, some 38, some 39, some 40, some 41, some 42, some 43, some 44, some 45, some 46, some 47, some 48, some 49, some 50, some 51, some 52]), (0, 12, []), (0, 12, []), (0, 12, []), (0, 12, []), (0, 12, []), (0, 12, []), (0, 12, []), (0, 12, []), (0, 12, []), (0, 28, []), (0, 28, []), (0, 28, []), (0, 8, []), (0, 8, []), (0, 8, []), (3, 20, [none, none, none, none, none, some 54, some 55, some 56, some 57, some 58, some 59, some 60, some 61, some 62, some 63, some 64, some 65, some 66, some 67, some 68]), (0, 12, []), (0, 12, []), (0, 12, []), (0, 12, []), (0, 12, []), (0, 12, []), (0, 12, []), (0, 12, []), (0, 12, []), (0, 28, []), (0, 28, []), (0, 28, []), (0, 8, []), (0, 8, []), (0, 8, []), (3, 20, [none, none, none, none, none, some 70, some 71, some 72, some 73, some 74, some 75, some 76, some 77, some 78, some 79, some 80, some 81, some 82, some 83, some 84]), (0, 12, []), (0, 12, []), (0, 12, []), (0, 12, []), (0, 12, []), (0, 12, []), (0, 12, []), (0, 12, []), (0, 12, []), (0, 28, []), (0, 28, []), (0, 28, []), (0, 8, []), (0, 8, []), (0, 8, []), (3, 20, [none, none, none, none, none, some 86, some 87, some 88, some 89, some 90, some 91, some 92, some 93, some 94, some 95, some 96, some 97, some 98, some 99, some 100]), (0, 12, []), (0, 12, []), (0, 12, []), (0, 12, []), (0, 12, []), (0, 12, []), (0, 12, []), (0, 12, []), (0, 12, []), (0, 28, []), (0, 28, []), (0, 28, []), (0, 8, []), (0, 8, []), (0, 8, []), (3, 20, [none, none, none, none, none, some 102, some 103, some 104, some 105, some 106, some 107, some 108, some 109, some 110, some 111, some 112, some 113, some 114, some 115, some 116]), (0, 12, []), (0, 12, []), (0, 12, []), (0, 12, []), (0, 12, []), (0, 12, []), (0, 12, []), (0, 12, []), (0, 12, []), (0, 28, []), (0, 28, []), (0, 28, []), (0, 8, []), (0, 8, []), (0, 8, []), (3, 20, [none, none, none, none, none, some 118, some 119, some 120, some 121, some 122, some 123, some 124, some 125, some 126, some 127, some 128, some 129, some 130, some 131, some 132]), (0, 12, []), (0, 12, []), (0, 12, []), (0, 12, []), (0, 12, []), (0, 12, []), (0, 12, []), (0, 12, []), (0, 12, []), (0, 28, []), (0, 28, []), (0, 28, []), (0, 8, []), (0, 8, []), (0, 8, []), (3, 20, [none, none, none, none, none, some 134, some 135, some 136, some 137, some 138, some 139, some 140, some 141, some 142, some 143, some 144, some 145, some 146, some 147, some 148]), (0, 12, []), (0, 12, []), (0, 12, []), (0, 12, []), (0, 12, []), (0, 12, []), (0, 12, []), (0, 12, []), (0, 12, []), (0, 28, []), (0, 28, []), (0, 28, []), (0, 8, []), (0, 8, []), (0, 8, []), (3, 20, [none, none, none, none, none, some 150, some 151, some 152, some 153, some 154, some 155, some 156, some 157, some 158, some 159, some 160, some 161, some 162, some 163, some 164]), (0, 12, []), (0, 12, []), (0, 12, []), (0, 12, []), (0, 12, []), (0, 12, []), (0, 12, []), (0, 12, []), (0, 12, []), (0, 28, []), (0, 28, []), (0, 28, []), (0, 8, []), (0, 8, []), (0, 8, []), (9, 5, [some 1, some 17, some 166, some 182, some 183]), (3, 20, [none, none, none, none, none, some 167, some 168, some 169, some 170, some 171, some 172, some 173, some 174, some 175, some 176, some 177, some 178, some 179, some 180, some 181]), (0, 12, []), (0, 12, []), (0, 12, []), (0, 12, []), (0, 12, []), (0, 12, []), (0, 12, []), (0, 12, []), (0, 12, []), (0, 28, []), (0, 28, []), (0, 28, []), (0, 8, []), (0, 8, []), (0, 8, []), (0, 12, []), (0, 5, []), (7, 4, [some 185, none, none, none]), (0, 400, []), (6, 2, [some 194, some 187]), (5, 8, [some 188, none, none, some 189, some 190, some 191, some 192, some 193]), (0, 400, []), (0, 16, []), (0, 16, []), (0, 16, []), (0, 10, []), (0, 64, []), (10, 8, [some 184, some 1048576, some 1048577, some 195, some 196, some 197, none, none]), (0, 401, []), (0, 401, []), (0, 401, []), (11, 8, [some 184, some 202, some 199, some 200, some 201, none, none, none]), (0, 12, []), (0, 12, []), (0, 12, []), (10, 8, [some 184, some 1048578, some 1048579, some 203, some 204, some 205, none, none]), (0, 401, []), (0, 401, []), (0, 401, []), (3, 20, [none, none, none, none, none, some 207, some 208, some 209, some 210, some 211, some 212, some 213, some 214, some 215, some 216, some 217, some 218, some 219, some 220, some 221]), (0, 12, []), (0, 12, []), (0, 12, []), (0, 12, []), (0, 12, []), (0, 12, []), (0, 12, []), (0, 12, []), (0, 12, []), (0, 28, []), (0, 28, []), (0, 28, []), (0, 8, []), (0, 8, []), (0, 8, []), (8, 9, [some 223, some 230, some 231, some 232, some 233, none, some 234, some 235, some 236]), (5, 8, [some 224, none, none, some 225, some 226, some 227, some 228, some 229]), (0, 400, []), (0, 16, []), (0, 16, []), (0, 16, []), (0, 10, []), (0, 64, []), (0, 12, []), (0, 144, []), (0, 144, []), (0, 144, []), (0, 320, []), (0, 8, []), (0, 8, []), (2, 2, [some 238, none]), (0, 1000, []), (13, 54, [none, some 240, some 241, none, some 242, none, none, some 243, some 244, some 245, some 246, some 247, none, some 248, some 249, some 250, none, none, none, none, none, some 251, none, some 252, some 253, some 254, some 255, some 256, none, none, some 257, none, none, none, none, none, some 258, some 259, some 260, some 261, none, some 262, some 263, some 264, some 265, some 266, some 267, none, none, some 268, none, none, none, some 269]), (0, 148, []), (0, 1184, []), (0, 148, []), (0, 12, []), (0, 12, []), (0, 12, []), (0, 12, []), (0, 12, []), (0, 1000, []), (0, 144, []), (0, 400, []), (0, 93, []), (0, 32, []), (0, 32, []), (0, 32, []), (0, 800, []), (0, 800, []), (0, 40, []), (0, 12, []), (0, 156, []), (0, 156, []), (0, 156, []), (0, 8, []), (0, 8, []), (0, 360, []), (0, 10, []), (0, 420, []), (0, 12, []), (0, 4, []), (0, 3200, [])]
theorem z1len : Z1.length ≤ 1048576 := by decide +kernel
def clanL : List Nat := [1, 37, 53, 69, 85, 101, 117, 133, 149, 166, 206]
def isClan (c : Nat) : Prop := c ∈ clanL
def tokL : List Nat := [194, 202]
def isTok (t : Nat) : Prop := t ∈ tokL
def tw (t : Nat) : Nat := if t = 194 then 0 else 2
theorem hist_clan {i : Int32} (h : inB i 8 = true) : isClan (37 + 16 * ix i) := (by decide +kernel : ∀ k, k < 8 → (37 + 16 * k) ∈ clanL) (ix i) (inB_lt h)
theorem zr_hist : ∀ k, k < 8 → sR Z1 35 k = some (37 + 16 * k) := by decide +kernel
def gd (c : Prop) [Decidable c] {ρ : Type} (o : Option ρ) : Option ρ := if c then o else none
theorem a_gd {ρ : Type} {X : CX} {E : FE} {b : Bool} {Qf : ρ → State → Prop} {pc : Nat} {L : List (Option Value)} {st : List Value} {Z : Sh} {S : Mm} {n w : Nat} {c : Prop} [Decidable c] {o : Option ρ} (g : At X E b Qf pc L st Z S n w (if c then o else none)) : At X E b Qf pc L st Z S n w (gd c o) := g
theorem a_gd1 {ρ : Type} {X : CX} {E : FE} {b : Bool} {Qf : ρ → State → Prop} {pc : Nat} {L : List (Option Value)} {st : List Value} {Z : Sh} {S : Mm} {n w : Nat} {c : Prop} [Decidable c] {o : Option ρ} (hc : c) (g : At X E b Qf pc L st Z S n w (if c then o else none)) : At X E b Qf pc L st Z S n w o := by rw [if_pos hc] at g; exact g
theorem rm_fr {E : FE} {d : Nat} (h : Rm E d) (hd : 1 ≤ d) : 1 ≤ (eR E).frames := Nat.le_trans hd h.1
theorem rm_lo {E : FE} {d : Nat} (h : Rm E d) (hd : 1 ≤ d) : 64 ≤ (eR E).locals := by have := h.2; omega
theorem wcX0_k : ∀ k : Nat, k < 2 → u_lay RX0 TX0 k ∈ lwG := fun k hk => match k, hk with
  | 0, _ => mG 343 (by decide +kernel) (by decide +kernel)
  | 1, _ => mG 345 (by decide +kernel) (by decide +kernel)
  | k + 2, h => absurd h (by omega)
theorem cfX0 : CF 0 RX0 TX0 2 tyX0 := ⟨rfl, fun w hw => by obtain ⟨k, hk, rfl⟩ := List.mem_map.mp hw; exact wcX0_k k (List.mem_range.mp hk), tyX0_ok, nmX0⟩
theorem wcX1_k : ∀ k : Nat, k < 20 → u_lay RX1 TX1 k ∈ lwG := fun k hk => match k, hk with
  | 0, _ => mG 206 (by decide +kernel) (by decide +kernel)
  | 1, _ => mG 208 (by decide +kernel) (by decide +kernel)
  | 2, _ => mG 210 (by decide +kernel) (by decide +kernel)
  | 3, _ => mG 212 (by decide +kernel) (by decide +kernel)
  | 4, _ => mG 214 (by decide +kernel) (by decide +kernel)
  | 5, _ => mG 216 (by decide +kernel) (by decide +kernel)
  | 6, _ => mG 218 (by decide +kernel) (by decide +kernel)
  | 7, _ => mG 220 (by decide +kernel) (by decide +kernel)
  | 8, _ => mG 222 (by decide +kernel) (by decide +kernel)
  | 9, _ => mG 224 (by decide +kernel) (by decide +kernel)
  | 10, _ => mG 226 (by decide +kernel) (by decide +kernel)
  | 11, _ => mG 228 (by decide +kernel) (by decide +kernel)
  | 12, _ => mG 230 (by decide +kernel) (by decide +kernel)
  | 13, _ => mG 232 (by decide +kernel) (by decide +kernel)
  | 14, _ => mG 234 (by decide +kernel) (by decide +kernel)
  | 15, _ => mG 236 (by decide +kernel) (by decide +kernel)
  | 16, _ => mG 238 (by decide +kernel) (by decide +kernel)
  | 17, _ => mG 240 (by decide +kernel) (by decide +kernel)
  | 18, _ => mG 242 (by decide +kernel) (by decide +kernel)
  | 19, _ => mG 244 (by decide +kernel) (by decide +kernel)
  | k + 20, h => absurd h (by omega)
theorem cfX1 : CF 1 RX1 TX1 20 tyX1 := ⟨rfl, fun w hw => by obtain ⟨k, hk, rfl⟩ := List.mem_map.mp hw; exact wcX1_k k (List.mem_range.mp hk), tyX1_ok, nmX1⟩
theorem wcX2_k : ∀ k : Nat, k < 4 → u_lay RX2 TX2 k ∈ lwG := fun k hk => match k, hk with
  | 0, _ => mG 362 (by decide +kernel) (by decide +kernel)
  | 1, _ => mG 364 (by decide +kernel) (by decide +kernel)
  | 2, _ => mG 366 (by decide +kernel) (by decide +kernel)
  | 3, _ => mG 368 (by decide +kernel) (by decide +kernel)
  | k + 4, h => absurd h (by omega)
theorem cfX2 : CF 2 RX2 TX2 4 tyX2 := ⟨rfl, fun w hw => by obtain ⟨k, hk, rfl⟩ := List.mem_map.mp hw; exact wcX2_k k (List.mem_range.mp hk), tyX2_ok, nmX2⟩
theorem wcX3_k : ∀ k : Nat, k < 8 → u_lay RX3 TX3 k ∈ lwG := fun k hk => match k, hk with
  | 0, _ => mG 274 (by decide +kernel) (by decide +kernel)
  | 1, _ => mG 276 (by decide +kernel) (by decide +kernel)
  | 2, _ => mG 278 (by decide +kernel) (by decide +kernel)
  | 3, _ => mG 280 (by decide +kernel) (by decide +kernel)
  | 4, _ => mG 282 (by decide +kernel) (by decide +kernel)
  | 5, _ => mG 284 (by decide +kernel) (by decide +kernel)
  | 6, _ => mG 286 (by decide +kernel) (by decide +kernel)
  | 7, _ => mG 288 (by decide +kernel) (by decide +kernel)
  | k + 8, h => absurd h (by omega)
theorem cfX3 : CF 3 RX3 TX3 8 tyX3 := ⟨rfl, fun w hw => by obtain ⟨k, hk, rfl⟩ := List.mem_map.mp hw; exact wcX3_k k (List.mem_range.mp hk), tyX3_ok, nmX3⟩
theorem wcX4_k : ∀ k : Nat, k < 2 → u_lay RX4 TX4 k ∈ lwG := fun k hk => match k, hk with
  | 0, _ => mG 469 (by decide +kernel) (by decide +kernel)
  | 1, _ => mG 471 (by decide +kernel) (by decide +kernel)
  | k + 2, h => absurd h (by omega)
theorem cfX4 : CF 4 RX4 TX4 2 tyX4 := ⟨rfl, fun w hw => by obtain ⟨k, hk, rfl⟩ := List.mem_map.mp hw; exact wcX4_k k (List.mem_range.mp hk), tyX4_ok, nmX4⟩
theorem wcX5_k : ∀ k : Nat, k < 4 → u_lay RX5 TX5 k ∈ lwG := fun k hk => match k, hk with
  | 0, _ => mG 416 (by decide +kernel) (by decide +kernel)
  | 1, _ => mG 418 (by decide +kernel) (by decide +kernel)
  | 2, _ => mG 420 (by decide +kernel) (by decide +kernel)
  | 3, _ => mG 422 (by decide +kernel) (by decide +kernel)
  | k + 4, h => absurd h (by omega)
theorem cfX5 : CF 5 RX5 TX5 4 tyX5 := ⟨rfl, fun w hw => by obtain ⟨k, hk, rfl⟩ := List.mem_map.mp hw; exact wcX5_k k (List.mem_range.mp hk), tyX5_ok, nmX5⟩
theorem wcX6_k : ∀ k : Nat, k < 9 → u_lay RX6 TX6 k ∈ lwG := fun k hk => match k, hk with
  | 0, _ => mG 313 (by decide +kernel) (by decide +kernel)
  | 1, _ => mG 315 (by decide +kernel) (by decide +kernel)
  | 2, _ => mG 317 (by decide +kernel) (by decide +kernel)
  | 3, _ => mG 319 (by decide +kernel) (by decide +kernel)
  | 4, _ => mG 321 (by decide +kernel) (by decide +kernel)
  | 5, _ => mG 323 (by decide +kernel) (by decide +kernel)
  | 6, _ => mG 325 (by decide +kernel) (by decide +kernel)
  | 7, _ => mG 327 (by decide +kernel) (by decide +kernel)
  | 8, _ => mG 329 (by decide +kernel) (by decide +kernel)
  | k + 9, h => absurd h (by omega)
theorem cfX6 : CF 6 RX6 TX6 9 tyX6 := ⟨rfl, fun w hw => by obtain ⟨k, hk, rfl⟩ := List.mem_map.mp hw; exact wcX6_k k (List.mem_range.mp hk), tyX6_ok, nmX6⟩
theorem wcX7_k : ∀ k : Nat, k < 5 → u_lay RX7 TX7 k ∈ lwG := fun k hk => match k, hk with
  | 0, _ => mG 384 (by decide +kernel) (by decide +kernel)
  | 1, _ => mG 386 (by decide +kernel) (by decide +kernel)
  | 2, _ => mG 388 (by decide +kernel) (by decide +kernel)
  | 3, _ => mG 390 (by decide +kernel) (by decide +kernel)
  | 4, _ => mG 392 (by decide +kernel) (by decide +kernel)
  | k + 5, h => absurd h (by omega)
theorem cfX7 : CF 7 RX7 TX7 5 tyX7 := ⟨rfl, fun w hw => by obtain ⟨k, hk, rfl⟩ := List.mem_map.mp hw; exact wcX7_k k (List.mem_range.mp hk), tyX7_ok, nmX7⟩
theorem wcX8_k : ∀ k : Nat, k < 8 → u_lay RX8 TX8 k ∈ lwG := fun k hk => match k, hk with
  | 0, _ => mG 449 (by decide +kernel) (by decide +kernel)
  | 1, _ => mG 451 (by decide +kernel) (by decide +kernel)
  | 2, _ => mG 453 (by decide +kernel) (by decide +kernel)
  | 3, _ => mG 455 (by decide +kernel) (by decide +kernel)
  | 4, _ => mG 457 (by decide +kernel) (by decide +kernel)
  | 5, _ => mG 459 (by decide +kernel) (by decide +kernel)
  | 6, _ => mG 461 (by decide +kernel) (by decide +kernel)
  | 7, _ => mG 463 (by decide +kernel) (by decide +kernel)
  | k + 8, h => absurd h (by omega)
theorem cfX8 : CF 8 RX8 TX8 8 tyX8 := ⟨rfl, fun w hw => by obtain ⟨k, hk, rfl⟩ := List.mem_map.mp hw; exact wcX8_k k (List.mem_range.mp hk), tyX8_ok, nmX8⟩
theorem wcX9_k : ∀ k : Nat, k < 8 → u_lay RX9 TX9 k ∈ lwG := fun k hk => match k, hk with
  | 0, _ => mG 492 (by decide +kernel) (by decide +kernel)
  | 1, _ => mG 494 (by decide +kernel) (by decide +kernel)
  | 2, _ => mG 496 (by decide +kernel) (by decide +kernel)
  | 3, _ => mG 498 (by decide +kernel) (by decide +kernel)
  | 4, _ => mG 500 (by decide +kernel) (by decide +kernel)
  | 5, _ => mG 502 (by decide +kernel) (by decide +kernel)
  | 6, _ => mG 504 (by decide +kernel) (by decide +kernel)
  | 7, _ => mG 506 (by decide +kernel) (by decide +kernel)
  | k + 8, h => absurd h (by omega)
theorem cfX9 : CF 9 RX9 TX9 8 tyX9 := ⟨rfl, fun w hw => by obtain ⟨k, hk, rfl⟩ := List.mem_map.mp hw; exact wcX9_k k (List.mem_range.mp hk), tyX9_ok, nmX9⟩
theorem wcX10_k : ∀ k : Nat, k < 12 → u_lay RX10 TX10 k ∈ lwG := fun k hk => match k, hk with
  | 0, _ => mG 521 (by decide +kernel) (by decide +kernel)
  | 1, _ => mG 523 (by decide +kernel) (by decide +kernel)
  | 2, _ => mG 525 (by decide +kernel) (by decide +kernel)
  | 3, _ => mG 527 (by decide +kernel) (by decide +kernel)
  | 4, _ => mG 529 (by decide +kernel) (by decide +kernel)
  | 5, _ => mG 531 (by decide +kernel) (by decide +kernel)
  | 6, _ => mG 533 (by decide +kernel) (by decide +kernel)
  | 7, _ => mG 535 (by decide +kernel) (by decide +kernel)
  | 8, _ => mG 537 (by decide +kernel) (by decide +kernel)
  | 9, _ => mG 539 (by decide +kernel) (by decide +kernel)
  | 10, _ => mG 541 (by decide +kernel) (by decide +kernel)
  | 11, _ => mG 543 (by decide +kernel) (by decide +kernel)
  | k + 12, h => absurd h (by omega)
theorem cfX10 : CF 10 RX10 TX10 12 tyX10 := ⟨rfl, fun w hw => by obtain ⟨k, hk, rfl⟩ := List.mem_map.mp hw; exact wcX10_k k (List.mem_range.mp hk), tyX10_ok, nmX10⟩
theorem wcX11_k : ∀ k : Nat, k < 54 → u_lay RX11 TX11 k ∈ lwG := fun k hk => match k, hk with
  | 0, _ => mG 1274 (by decide +kernel) (by decide +kernel)
  | 1, _ => mG 1276 (by decide +kernel) (by decide +kernel)
  | 2, _ => mG 1278 (by decide +kernel) (by decide +kernel)
  | 3, _ => mG 1280 (by decide +kernel) (by decide +kernel)
  | 4, _ => mG 1282 (by decide +kernel) (by decide +kernel)
  | 5, _ => mG 1284 (by decide +kernel) (by decide +kernel)
  | 6, _ => mG 1286 (by decide +kernel) (by decide +kernel)
  | 7, _ => mG 1288 (by decide +kernel) (by decide +kernel)
  | 8, _ => mG 1290 (by decide +kernel) (by decide +kernel)
  | 9, _ => mG 1292 (by decide +kernel) (by decide +kernel)
  | 10, _ => mG 1294 (by decide +kernel) (by decide +kernel)
  | 11, _ => mG 1296 (by decide +kernel) (by decide +kernel)
  | 12, _ => mG 1298 (by decide +kernel) (by decide +kernel)
  | 13, _ => mG 1300 (by decide +kernel) (by decide +kernel)
  | 14, _ => mG 1302 (by decide +kernel) (by decide +kernel)
  | 15, _ => mG 1304 (by decide +kernel) (by decide +kernel)
  | 16, _ => mG 1306 (by decide +kernel) (by decide +kernel)
  | 17, _ => mG 1308 (by decide +kernel) (by decide +kernel)
  | 18, _ => mG 1310 (by decide +kernel) (by decide +kernel)
  | 19, _ => mG 1312 (by decide +kernel) (by decide +kernel)
  | 20, _ => mG 1314 (by decide +kernel) (by decide +kernel)
  | 21, _ => mG 1316 (by decide +kernel) (by decide +kernel)
  | 22, _ => mG 1318 (by decide +kernel) (by decide +kernel)
  | 23, _ => mG 1320 (by decide +kernel) (by decide +kernel)
  | 24, _ => mG 1322 (by decide +kernel) (by decide +kernel)
  | 25, _ => mG 1324 (by decide +kernel) (by decide +kernel)
  | 26, _ => mG 1326 (by decide +kernel) (by decide +kernel)
  | 27, _ => mG 1328 (by decide +kernel) (by decide +kernel)
  | 28, _ => mG 1330 (by decide +kernel) (by decide +kernel)
  | 29, _ => mG 1332 (by decide +kernel) (by decide +kernel)
  | 30, _ => mG 1334 (by decide +kernel) (by decide +kernel)
  | 31, _ => mG 1336 (by decide +kernel) (by decide +kernel)
  | 32, _ => mG 1338 (by decide +kernel) (by decide +kernel)
  | 33, _ => mG 1340 (by decide +kernel) (by decide +kernel)
  | 34, _ => mG 1342 (by decide +kernel) (by decide +kernel)
  | 35, _ => mG 1344 (by decide +kernel) (by decide +kernel)
  | 36, _ => mG 1346 (by decide +kernel) (by decide +kernel)
  | 37, _ => mG 1348 (by decide +kernel) (by decide +kernel)
  | 38, _ => mG 1350 (by decide +kernel) (by decide +kernel)
  | 39, _ => mG 1352 (by decide +kernel) (by decide +kernel)
  | 40, _ => mG 1354 (by decide +kernel) (by decide +kernel)
  | 41, _ => mG 1356 (by decide +kernel) (by decide +kernel)
  | 42, _ => mG 1358 (by decide +kernel) (by decide +kernel)
  | 43, _ => mG 1360 (by decide +kernel) (by decide +kernel)
  | 44, _ => mG 1362 (by decide +kernel) (by decide +kernel)
  | 45, _ => mG 1364 (by decide +kernel) (by decide +kernel)
  | 46, _ => mG 1366 (by decide +kernel) (by decide +kernel)
  | 47, _ => mG 1368 (by decide +kernel) (by decide +kernel)
  | 48, _ => mG 1370 (by decide +kernel) (by decide +kernel)
  | 49, _ => mG 1372 (by decide +kernel) (by decide +kernel)
  | 50, _ => mG 1374 (by decide +kernel) (by decide +kernel)
  | 51, _ => mG 1376 (by decide +kernel) (by decide +kernel)
  | 52, _ => mG 1378 (by decide +kernel) (by decide +kernel)
  | 53, _ => mG 1380 (by decide +kernel) (by decide +kernel)
  | k + 54, h => absurd h (by omega)
theorem cfX11 : CF 11 RX11 TX11 54 tyX11 := ⟨rfl, fun w hw => by obtain ⟨k, hk, rfl⟩ := List.mem_map.mp hw; exact wcX11_k k (List.mem_range.mp hk), tyX11_ok, nmX11⟩
theorem zl_0 : 0 < Z1.length := by decide +kernel
theorem zk_0 : sK Z1 0 = (12, 12) := by decide +kernel
theorem zr_0_1 : sR Z1 0 1 = some 17 := by decide +kernel
theorem zl_17 : 17 < Z1.length := by decide +kernel
theorem zk_17 : sK Z1 17 = (8, 9) := by decide +kernel
theorem zr_17_7 : sR Z1 17 7 = some 30 := by decide +kernel
theorem zr_17_6 : sR Z1 17 6 = some 29 := by decide +kernel
theorem ki_0 : Int32.ofInt (0) = (0 : Int32) := by decide +kernel
theorem fl_X10_19 : Cond.fieldLink RX10 19 (TX10 1).1 (TX10 1).2.1 (TX10 1).2.2.1 ∈ lwG := mG 510 (by decide +kernel) (by decide +kernel)
theorem fi_10_1 : fI 10 1 = false := by decide +kernel
theorem fl_X10_158 : Cond.fieldLink RX10 158 (TX6 5).1 (TX6 5).2.1 (TX6 5).2.2.1 ∈ lwG := mG 304 (by decide +kernel) (by decide +kernel)
theorem fi_6_5 : fI 6 5 = true := by decide +kernel
theorem ki_1 : Int32.ofInt (1) = (1 : Int32) := by decide +kernel
theorem mw_X10_isDeed : MW yX10_isDeed cX10_isDeed 2 (some .boolean) 1 := ⟨mG 965 (by decide +kernel) (by decide +kernel), mG 123 (by decide +kernel) (by decide +kernel), by decide +kernel, ⟨by decide +kernel, by decide +kernel⟩, by decide +kernel, by decide⟩
theorem ml_X10_205 : Cond.methodLink RX10 205 yX10_isDeed ∈ lwG := mG 962 (by decide +kernel) (by decide +kernel)
theorem im_X10_isDeed : Cond.instanceMethod yX10_isDeed ∈ lwG := mG 964 (by decide +kernel) (by decide +kernel)
theorem se_X10_isDeed : Cond.selects RX10 yX10_isDeed yX10_isDeed ∈ lwG := mG 19 (by decide +kernel) (by decide +kernel)
theorem ki_m1 : Int32.ofInt (-1) = (-1 : Int32) := by decide +kernel
theorem fl_X10_261 : Cond.fieldLink RX10 261 (TX6 7).1 (TX6 7).2.1 (TX6 7).2.2.1 ∈ lwG := mG 309 (by decide +kernel) (by decide +kernel)
theorem fi_6_7 : fI 6 7 = false := by decide +kernel
theorem zl_30 : 30 < Z1.length := by decide +kernel
theorem zk_30 : sK Z1 30 = (0, 8) := by decide +kernel
theorem fl_X10_270 : Cond.fieldLink RX10 270 (TX6 6).1 (TX6 6).2.1 (TX6 6).2.2.1 ∈ lwG := mG 307 (by decide +kernel) (by decide +kernel)
theorem fi_6_6 : fI 6 6 = false := by decide +kernel
theorem kb_40 : (Int8.ofInt (40)).toInt32 = (40 : Int32) := by decide +kernel
theorem zl_29 : 29 < Z1.length := by decide +kernel
theorem zk_29 : sK Z1 29 = (0, 320) := by decide +kernel
theorem zr_0_0 : sR Z1 0 0 = some 1 := by decide +kernel
theorem zr_0_4 : sR Z1 0 4 = some 165 := by decide +kernel
theorem zcl_0 : ∀ {c : Nat}, isClan c → c < Z1.length := fun {c} h => (by decide +kernel : ∀ c ∈ clanL, c < Z1.length) c h
theorem zck_0 : ∀ {c : Nat}, isClan c → sK Z1 (c) = (3, 20) := fun {c} h => (by decide +kernel : ∀ c ∈ clanL, sK Z1 (c) = (3, 20)) c h
theorem fl_X1_21 : Cond.fieldLink RX1 21 (TX1 3).1 (TX1 3).2.1 (TX1 3).2.2.1 ∈ lwG := mG 165 (by decide +kernel) (by decide +kernel)
theorem fi_1_3 : fI 1 3 = true := by decide +kernel
theorem mw_X1_isThere : MW yX1_isThere cX1_isThere 2 (some .boolean) 1 := ⟨mG 562 (by decide +kernel) (by decide +kernel), mG 124 (by decide +kernel) (by decide +kernel), by decide +kernel, ⟨by decide +kernel, by decide +kernel⟩, by decide +kernel, by decide⟩
theorem ml_X1_79 : Cond.methodLink RX1 79 yX1_isThere ∈ lwG := mG 579 (by decide +kernel) (by decide +kernel)
theorem im_X1_isThere : Cond.instanceMethod yX1_isThere ∈ lwG := mG 560 (by decide +kernel) (by decide +kernel)
theorem se_X1_isThere : Cond.selects RX1 yX1_isThere yX1_isThere ∈ lwG := mG 561 (by decide +kernel) (by decide +kernel)
theorem fl_X1_24 : Cond.fieldLink RX1 24 (TX1 4).1 (TX1 4).2.1 (TX1 4).2.2.1 ∈ lwG := mG 169 (by decide +kernel) (by decide +kernel)
theorem fi_1_4 : fI 1 4 = true := by decide +kernel
theorem zl_165 : 165 < Z1.length := by decide +kernel
theorem zk_165 : sK Z1 165 = (9, 5) := by decide +kernel
theorem zr_165_0 : sR Z1 165 0 = some 1 := by decide +kernel
theorem zl_1 : 1 < Z1.length := by decide +kernel
theorem zk_1 : sK Z1 1 = (3, 20) := by decide +kernel
theorem zr_165_2 : sR Z1 165 2 = some 166 := by decide +kernel
theorem zr_1_14 : sR Z1 1 14 = some 11 := by decide +kernel
theorem zl_166 : 166 < Z1.length := by decide +kernel
theorem zk_166 : sK Z1 166 = (3, 20) := by decide +kernel
theorem zr_166_14 : sR Z1 166 14 = some 176 := by decide +kernel
theorem zcr_5 : ∀ {c : Nat}, isClan c → sR Z1 c 5 = some (c + 1) := fun {c} h => (by decide +kernel : ∀ c ∈ clanL, sR Z1 c 5 = some (c + 1)) c h
theorem zcr_6 : ∀ {c : Nat}, isClan c → sR Z1 c 6 = some (c + 2) := fun {c} h => (by decide +kernel : ∀ c ∈ clanL, sR Z1 c 6 = some (c + 2)) c h
theorem zcr_7 : ∀ {c : Nat}, isClan c → sR Z1 c 7 = some (c + 3) := fun {c} h => (by decide +kernel : ∀ c ∈ clanL, sR Z1 c 7 = some (c + 3)) c h
theorem zcr_8 : ∀ {c : Nat}, isClan c → sR Z1 c 8 = some (c + 4) := fun {c} h => (by decide +kernel : ∀ c ∈ clanL, sR Z1 c 8 = some (c + 4)) c h
theorem zcr_9 : ∀ {c : Nat}, isClan c → sR Z1 c 9 = some (c + 5) := fun {c} h => (by decide +kernel : ∀ c ∈ clanL, sR Z1 c 9 = some (c + 5)) c h
theorem zcr_10 : ∀ {c : Nat}, isClan c → sR Z1 c 10 = some (c + 6) := fun {c} h => (by decide +kernel : ∀ c ∈ clanL, sR Z1 c 10 = some (c + 6)) c h
theorem zcr_11 : ∀ {c : Nat}, isClan c → sR Z1 c 11 = some (c + 7) := fun {c} h => (by decide +kernel : ∀ c ∈ clanL, sR Z1 c 11 = some (c + 7)) c h
theorem zcr_12 : ∀ {c : Nat}, isClan c → sR Z1 c 12 = some (c + 8) := fun {c} h => (by decide +kernel : ∀ c ∈ clanL, sR Z1 c 12 = some (c + 8)) c h
theorem zcr_13 : ∀ {c : Nat}, isClan c → sR Z1 c 13 = some (c + 9) := fun {c} h => (by decide +kernel : ∀ c ∈ clanL, sR Z1 c 13 = some (c + 9)) c h
theorem zcr_14 : ∀ {c : Nat}, isClan c → sR Z1 c 14 = some (c + 10) := fun {c} h => (by decide +kernel : ∀ c ∈ clanL, sR Z1 c 14 = some (c + 10)) c h
theorem zcr_15 : ∀ {c : Nat}, isClan c → sR Z1 c 15 = some (c + 11) := fun {c} h => (by decide +kernel : ∀ c ∈ clanL, sR Z1 c 15 = some (c + 11)) c h
theorem zcr_16 : ∀ {c : Nat}, isClan c → sR Z1 c 16 = some (c + 12) := fun {c} h => (by decide +kernel : ∀ c ∈ clanL, sR Z1 c 16 = some (c + 12)) c h
theorem zcr_17 : ∀ {c : Nat}, isClan c → sR Z1 c 17 = some (c + 13) := fun {c} h => (by decide +kernel : ∀ c ∈ clanL, sR Z1 c 17 = some (c + 13)) c h
theorem zcr_18 : ∀ {c : Nat}, isClan c → sR Z1 c 18 = some (c + 14) := fun {c} h => (by decide +kernel : ∀ c ∈ clanL, sR Z1 c 18 = some (c + 14)) c h
theorem zcr_19 : ∀ {c : Nat}, isClan c → sR Z1 c 19 = some (c + 15) := fun {c} h => (by decide +kernel : ∀ c ∈ clanL, sR Z1 c 19 = some (c + 15)) c h
theorem fl_X1_9 : Cond.fieldLink RX1 9 (TX1 0).1 (TX1 0).2.1 (TX1 0).2.2.1 ∈ lwG := mG 157 (by decide +kernel) (by decide +kernel)
theorem fi_1_0 : fI 1 0 = true := by decide +kernel
theorem fl_X1_15 : Cond.fieldLink RX1 15 (TX1 1).1 (TX1 1).2.1 (TX1 1).2.2.1 ∈ lwG := mG 159 (by decide +kernel) (by decide +kernel)
theorem fi_1_1 : fI 1 1 = true := by decide +kernel
theorem fl_X1_18 : Cond.fieldLink RX1 18 (TX1 2).1 (TX1 2).2.1 (TX1 2).2.2.1 ∈ lwG := mG 163 (by decide +kernel) (by decide +kernel)
theorem fi_1_2 : fI 1 2 = true := by decide +kernel
theorem fl_X1_27 : Cond.fieldLink RX1 27 (TX1 5).1 (TX1 5).2.1 (TX1 5).2.2.1 ∈ lwG := mG 172 (by decide +kernel) (by decide +kernel)
theorem fi_1_5 : fI 1 5 = false := by decide +kernel
theorem kb_12 : (Int8.ofInt (12)).toInt32 = (12 : Int32) := by decide +kernel
theorem zcl_1 : ∀ {c : Nat}, isClan c → c + 1 < Z1.length := fun {c} h => (by decide +kernel : ∀ c ∈ clanL, c + 1 < Z1.length) c h
theorem zck_1 : ∀ {c : Nat}, isClan c → sK Z1 (c + 1) = (0, 12) := fun {c} h => (by decide +kernel : ∀ c ∈ clanL, sK Z1 (c + 1) = (0, 12)) c h
theorem sysN : Cond.native arraycopyName ∈ lwG := mG 840 (by decide +kernel) (by decide +kernel)
theorem sysS : Cond.static arraycopyName ∈ lwG := mG 839 (by decide +kernel) (by decide +kernel)
theorem sysI : Cond.initialized "java/lang/System" ∈ lwG := mG 141 (by decide +kernel) (by decide +kernel)
theorem ml_X1_73 : Cond.methodLink RX1 73 arraycopyName ∈ lwG := mG 919 (by decide +kernel) (by decide +kernel)
theorem fl_X1_31 : Cond.fieldLink RX1 31 (TX1 6).1 (TX1 6).2.1 (TX1 6).2.2.1 ∈ lwG := mG 174 (by decide +kernel) (by decide +kernel)
theorem fi_1_6 : fI 1 6 = false := by decide +kernel
theorem zcl_2 : ∀ {c : Nat}, isClan c → c + 2 < Z1.length := fun {c} h => (by decide +kernel : ∀ c ∈ clanL, c + 2 < Z1.length) c h
theorem zck_2 : ∀ {c : Nat}, isClan c → sK Z1 (c + 2) = (0, 12) := fun {c} h => (by decide +kernel : ∀ c ∈ clanL, sK Z1 (c + 2) = (0, 12)) c h
theorem fl_X1_34 : Cond.fieldLink RX1 34 (TX1 7).1 (TX1 7).2.1 (TX1 7).2.2.1 ∈ lwG := mG 176 (by decide +kernel) (by decide +kernel)
theorem fi_1_7 : fI 1 7 = false := by decide +kernel
theorem zcl_3 : ∀ {c : Nat}, isClan c → c + 3 < Z1.length := fun {c} h => (by decide +kernel : ∀ c ∈ clanL, c + 3 < Z1.length) c h
theorem zck_3 : ∀ {c : Nat}, isClan c → sK Z1 (c + 3) = (0, 12) := fun {c} h => (by decide +kernel : ∀ c ∈ clanL, sK Z1 (c + 3) = (0, 12)) c h
theorem fl_X1_37 : Cond.fieldLink RX1 37 (TX1 8).1 (TX1 8).2.1 (TX1 8).2.2.1 ∈ lwG := mG 179 (by decide +kernel) (by decide +kernel)
theorem fi_1_8 : fI 1 8 = false := by decide +kernel
theorem zcl_4 : ∀ {c : Nat}, isClan c → c + 4 < Z1.length := fun {c} h => (by decide +kernel : ∀ c ∈ clanL, c + 4 < Z1.length) c h
theorem zck_4 : ∀ {c : Nat}, isClan c → sK Z1 (c + 4) = (0, 12) := fun {c} h => (by decide +kernel : ∀ c ∈ clanL, sK Z1 (c + 4) = (0, 12)) c h
theorem fl_X1_40 : Cond.fieldLink RX1 40 (TX1 9).1 (TX1 9).2.1 (TX1 9).2.2.1 ∈ lwG := mG 181 (by decide +kernel) (by decide +kernel)
theorem fi_1_9 : fI 1 9 = false := by decide +kernel
theorem zcl_5 : ∀ {c : Nat}, isClan c → c + 5 < Z1.length := fun {c} h => (by decide +kernel : ∀ c ∈ clanL, c + 5 < Z1.length) c h
theorem zck_5 : ∀ {c : Nat}, isClan c → sK Z1 (c + 5) = (0, 12) := fun {c} h => (by decide +kernel : ∀ c ∈ clanL, sK Z1 (c + 5) = (0, 12)) c h
theorem fl_X1_43 : Cond.fieldLink RX1 43 (TX1 10).1 (TX1 10).2.1 (TX1 10).2.2.1 ∈ lwG := mG 183 (by decide +kernel) (by decide +kernel)
theorem fi_1_10 : fI 1 10 = false := by decide +kernel
theorem zcl_6 : ∀ {c : Nat}, isClan c → c + 6 < Z1.length := fun {c} h => (by decide +kernel : ∀ c ∈ clanL, c + 6 < Z1.length) c h
theorem zck_6 : ∀ {c : Nat}, isClan c → sK Z1 (c + 6) = (0, 12) := fun {c} h => (by decide +kernel : ∀ c ∈ clanL, sK Z1 (c + 6) = (0, 12)) c h
theorem fl_X1_46 : Cond.fieldLink RX1 46 (TX1 11).1 (TX1 11).2.1 (TX1 11).2.2.1 ∈ lwG := mG 186 (by decide +kernel) (by decide +kernel)
theorem fi_1_11 : fI 1 11 = false := by decide +kernel
theorem zcl_7 : ∀ {c : Nat}, isClan c → c + 7 < Z1.length := fun {c} h => (by decide +kernel : ∀ c ∈ clanL, c + 7 < Z1.length) c h
theorem zck_7 : ∀ {c : Nat}, isClan c → sK Z1 (c + 7) = (0, 12) := fun {c} h => (by decide +kernel : ∀ c ∈ clanL, sK Z1 (c + 7) = (0, 12)) c h
theorem fl_X1_49 : Cond.fieldLink RX1 49 (TX1 12).1 (TX1 12).2.1 (TX1 12).2.2.1 ∈ lwG := mG 189 (by decide +kernel) (by decide +kernel)
theorem fi_1_12 : fI 1 12 = false := by decide +kernel
theorem zcl_8 : ∀ {c : Nat}, isClan c → c + 8 < Z1.length := fun {c} h => (by decide +kernel : ∀ c ∈ clanL, c + 8 < Z1.length) c h
theorem zck_8 : ∀ {c : Nat}, isClan c → sK Z1 (c + 8) = (0, 12) := fun {c} h => (by decide +kernel : ∀ c ∈ clanL, sK Z1 (c + 8) = (0, 12)) c h
theorem fl_X1_52 : Cond.fieldLink RX1 52 (TX1 13).1 (TX1 13).2.1 (TX1 13).2.2.1 ∈ lwG := mG 192 (by decide +kernel) (by decide +kernel)
theorem fi_1_13 : fI 1 13 = false := by decide +kernel
theorem zcl_9 : ∀ {c : Nat}, isClan c → c + 9 < Z1.length := fun {c} h => (by decide +kernel : ∀ c ∈ clanL, c + 9 < Z1.length) c h
theorem zck_9 : ∀ {c : Nat}, isClan c → sK Z1 (c + 9) = (0, 12) := fun {c} h => (by decide +kernel : ∀ c ∈ clanL, sK Z1 (c + 9) = (0, 12)) c h
theorem fl_X1_55 : Cond.fieldLink RX1 55 (TX1 14).1 (TX1 14).2.1 (TX1 14).2.2.1 ∈ lwG := mG 193 (by decide +kernel) (by decide +kernel)
theorem fi_1_14 : fI 1 14 = false := by decide +kernel
theorem kb_28 : (Int8.ofInt (28)).toInt32 = (28 : Int32) := by decide +kernel
theorem zcl_10 : ∀ {c : Nat}, isClan c → c + 10 < Z1.length := fun {c} h => (by decide +kernel : ∀ c ∈ clanL, c + 10 < Z1.length) c h
theorem zck_10 : ∀ {c : Nat}, isClan c → sK Z1 (c + 10) = (0, 28) := fun {c} h => (by decide +kernel : ∀ c ∈ clanL, sK Z1 (c + 10) = (0, 28)) c h
theorem fl_X1_58 : Cond.fieldLink RX1 58 (TX1 15).1 (TX1 15).2.1 (TX1 15).2.2.1 ∈ lwG := mG 196 (by decide +kernel) (by decide +kernel)
theorem fi_1_15 : fI 1 15 = false := by decide +kernel
theorem zcl_11 : ∀ {c : Nat}, isClan c → c + 11 < Z1.length := fun {c} h => (by decide +kernel : ∀ c ∈ clanL, c + 11 < Z1.length) c h
theorem zck_11 : ∀ {c : Nat}, isClan c → sK Z1 (c + 11) = (0, 28) := fun {c} h => (by decide +kernel : ∀ c ∈ clanL, sK Z1 (c + 11) = (0, 28)) c h
theorem fl_X1_61 : Cond.fieldLink RX1 61 (TX1 16).1 (TX1 16).2.1 (TX1 16).2.2.1 ∈ lwG := mG 198 (by decide +kernel) (by decide +kernel)
theorem fi_1_16 : fI 1 16 = false := by decide +kernel
theorem zcl_12 : ∀ {c : Nat}, isClan c → c + 12 < Z1.length := fun {c} h => (by decide +kernel : ∀ c ∈ clanL, c + 12 < Z1.length) c h
theorem zck_12 : ∀ {c : Nat}, isClan c → sK Z1 (c + 12) = (0, 28) := fun {c} h => (by decide +kernel : ∀ c ∈ clanL, sK Z1 (c + 12) = (0, 28)) c h
theorem fl_X1_64 : Cond.fieldLink RX1 64 (TX1 17).1 (TX1 17).2.1 (TX1 17).2.2.1 ∈ lwG := mG 200 (by decide +kernel) (by decide +kernel)
theorem fi_1_17 : fI 1 17 = false := by decide +kernel
theorem kb_8 : (Int8.ofInt (8)).toInt32 = (8 : Int32) := by decide +kernel
theorem zcl_13 : ∀ {c : Nat}, isClan c → c + 13 < Z1.length := fun {c} h => (by decide +kernel : ∀ c ∈ clanL, c + 13 < Z1.length) c h
theorem zck_13 : ∀ {c : Nat}, isClan c → sK Z1 (c + 13) = (0, 8) := fun {c} h => (by decide +kernel : ∀ c ∈ clanL, sK Z1 (c + 13) = (0, 8)) c h
theorem fl_X1_67 : Cond.fieldLink RX1 67 (TX1 18).1 (TX1 18).2.1 (TX1 18).2.2.1 ∈ lwG := mG 202 (by decide +kernel) (by decide +kernel)
theorem fi_1_18 : fI 1 18 = false := by decide +kernel
theorem zcl_14 : ∀ {c : Nat}, isClan c → c + 14 < Z1.length := fun {c} h => (by decide +kernel : ∀ c ∈ clanL, c + 14 < Z1.length) c h
theorem zck_14 : ∀ {c : Nat}, isClan c → sK Z1 (c + 14) = (0, 8) := fun {c} h => (by decide +kernel : ∀ c ∈ clanL, sK Z1 (c + 14) = (0, 8)) c h
theorem fl_X1_70 : Cond.fieldLink RX1 70 (TX1 19).1 (TX1 19).2.1 (TX1 19).2.2.1 ∈ lwG := mG 204 (by decide +kernel) (by decide +kernel)
theorem fi_1_19 : fI 1 19 = false := by decide +kernel
theorem zcl_15 : ∀ {c : Nat}, isClan c → c + 15 < Z1.length := fun {c} h => (by decide +kernel : ∀ c ∈ clanL, c + 15 < Z1.length) c h
theorem zck_15 : ∀ {c : Nat}, isClan c → sK Z1 (c + 15) = (0, 8) := fun {c} h => (by decide +kernel : ∀ c ∈ clanL, sK Z1 (c + 15) = (0, 8)) c h
theorem zr_165_1 : sR Z1 165 1 = some 17 := by decide +kernel
theorem zr_17_8 : sR Z1 17 8 = some 31 := by decide +kernel
theorem zr_165_3 : sR Z1 165 3 = some 182 := by decide +kernel
theorem mw_X1_lives : MW yX1_lives cX1_lives 2 (some .boolean) 1 := ⟨mG 578 (by decide +kernel) (by decide +kernel), mG 124 (by decide +kernel) (by decide +kernel), by decide +kernel, ⟨by decide +kernel, by decide +kernel⟩, by decide +kernel, by decide⟩
theorem ml_X1_87 : Cond.methodLink RX1 87 yX1_lives ∈ lwG := mG 906 (by decide +kernel) (by decide +kernel)
theorem im_X1_lives : Cond.instanceMethod yX1_lives ∈ lwG := mG 576 (by decide +kernel) (by decide +kernel)
theorem se_X1_lives : Cond.selects RX1 yX1_lives yX1_lives ∈ lwG := mG 577 (by decide +kernel) (by decide +kernel)
theorem mw_X1_within : MW yX1_within cX1_within 7 (some .int) 2 := ⟨mG 981 (by decide +kernel) (by decide +kernel), mG 124 (by decide +kernel) (by decide +kernel), by decide +kernel, ⟨by decide +kernel, by decide +kernel⟩, by decide +kernel, by decide⟩
theorem ml_X1_97 : Cond.methodLink RX1 97 yX1_within ∈ lwG := mG 978 (by decide +kernel) (by decide +kernel)
theorem im_X1_within : Cond.instanceMethod yX1_within ∈ lwG := mG 979 (by decide +kernel) (by decide +kernel)
theorem se_X1_within : Cond.selects RX1 yX1_within yX1_within ∈ lwG := mG 980 (by decide +kernel) (by decide +kernel)
theorem fl_X7_18 : Cond.fieldLink RX7 18 (TX7 3).1 (TX7 3).2.1 (TX7 3).2.2.1 ∈ lwG := mG 382 (by decide +kernel) (by decide +kernel)
theorem fi_7_3 : fI 7 3 = false := by decide +kernel
theorem mw_X1_writableBy : MW yX1_writableBy cX1_writableBy 8 (some .int) 1 := ⟨mG 977 (by decide +kernel) (by decide +kernel), mG 124 (by decide +kernel) (by decide +kernel), by decide +kernel, ⟨by decide +kernel, by decide +kernel⟩, by decide +kernel, by decide⟩
theorem ml_X7_32 : Cond.methodLink RX7 32 yX1_writableBy ∈ lwG := mG 974 (by decide +kernel) (by decide +kernel)
theorem im_X1_writableBy : Cond.instanceMethod yX1_writableBy ∈ lwG := mG 975 (by decide +kernel) (by decide +kernel)
theorem se_X1_writableBy : Cond.selects RX1 yX1_writableBy yX1_writableBy ∈ lwG := mG 976 (by decide +kernel) (by decide +kernel)
theorem zl_182 : 182 < Z1.length := by decide +kernel
theorem zk_182 : sK Z1 182 = (0, 12) := by decide +kernel
theorem fl_X7_43 : Cond.fieldLink RX7 43 (TX1 3).1 (TX1 3).2.1 (TX1 3).2.2.1 ∈ lwG := mG 168 (by decide +kernel) (by decide +kernel)
theorem fl_X7_28 : Cond.fieldLink RX7 28 (TX7 1).1 (TX7 1).2.1 (TX7 1).2.2.1 ∈ lwG := mG 380 (by decide +kernel) (by decide +kernel)
theorem fi_7_1 : fI 7 1 = false := by decide +kernel
theorem fl_X7_67 : Cond.fieldLink RX7 67 (TX6 8).1 (TX6 8).2.1 (TX6 8).2.2.1 ∈ lwG := mG 311 (by decide +kernel) (by decide +kernel)
theorem fi_6_8 : fI 6 8 = false := by decide +kernel
theorem zl_31 : 31 < Z1.length := by decide +kernel
theorem zk_31 : sK Z1 31 = (0, 8) := by decide +kernel
theorem fl_X7_62 : Cond.fieldLink RX7 62 (TX6 5).1 (TX6 5).2.1 (TX6 5).2.2.1 ∈ lwG := mG 305 (by decide +kernel) (by decide +kernel)
theorem mw_X7_ask : MW yX7_ask cX7_ask 3 none 1 := ⟨mG 973 (by decide +kernel) (by decide +kernel), mG 129 (by decide +kernel) (by decide +kernel), by decide +kernel, ⟨by decide +kernel, by decide +kernel⟩, by decide +kernel, by decide⟩
theorem ml_X7_36 : Cond.methodLink RX7 36 yX7_ask ∈ lwG := mG 970 (by decide +kernel) (by decide +kernel)
theorem im_X7_ask : Cond.instanceMethod yX7_ask ∈ lwG := mG 972 (by decide +kernel) (by decide +kernel)
theorem se_X7_ask : Cond.selects RX7 yX7_ask yX7_ask ∈ lwG := mG 20 (by decide +kernel) (by decide +kernel)
theorem con_J6_265 : Cond.constant RJ6 265 (1431655765) ∈ lwG := mG 1025 (by decide +kernel) (by decide +kernel)
theorem con_J6_266 : Cond.constant RJ6 266 (858993459) ∈ lwG := mG 1026 (by decide +kernel) (by decide +kernel)
theorem ki_2 : Int32.ofInt (2) = (2 : Int32) := by decide +kernel
theorem ki_4 : Int32.ofInt (4) = (4 : Int32) := by decide +kernel
theorem con_J6_267 : Cond.constant RJ6 267 (252645135) ∈ lwG := mG 1027 (by decide +kernel) (by decide +kernel)
theorem kb_16 : (Int8.ofInt (16)).toInt32 = (16 : Int32) := by decide +kernel
theorem kb_63 : (Int8.ofInt (63)).toInt32 = (63 : Int32) := by decide +kernel
theorem fl_X7_12 : Cond.fieldLink RX7 12 (TX7 2).1 (TX7 2).2.1 (TX7 2).2.2.1 ∈ lwG := mG 381 (by decide +kernel) (by decide +kernel)
theorem fi_7_2 : fI 7 2 = false := by decide +kernel
theorem icl_166 : isClan 166 := (by decide +kernel : 166 ∈ clanL)
theorem mw_X7_spoken : MW yX7_spoken cX7_spoken 5 (some .int) 1 := ⟨mG 1173 (by decide +kernel) (by decide +kernel), mG 129 (by decide +kernel) (by decide +kernel), by decide +kernel, ⟨by decide +kernel, by decide +kernel⟩, by decide +kernel, by decide⟩
theorem ml_X7_77 : Cond.methodLink RX7 77 yX7_spoken ∈ lwG := mG 1170 (by decide +kernel) (by decide +kernel)
theorem im_X7_spoken : Cond.instanceMethod yX7_spoken ∈ lwG := mG 1172 (by decide +kernel) (by decide +kernel)
theorem se_X7_spoken : Cond.selects RX7 yX7_spoken yX7_spoken ∈ lwG := mG 28 (by decide +kernel) (by decide +kernel)
theorem ml_X7_50 : Cond.methodLink RX7 50 yJ6_bitCount_0f7a4 ∈ lwG := mG 1076 (by decide +kernel) (by decide +kernel)
theorem mw_J6_bitCount_0f7a4 : MW yJ6_bitCount_0f7a4 cJ6_bitCount_0f7a4 1 (some .int) 1 := ⟨mG 1024 (by decide +kernel) (by decide +kernel), mG 142 (by decide +kernel) (by decide +kernel), by decide +kernel, ⟨by decide +kernel, by decide +kernel⟩, by decide +kernel, by decide⟩
theorem st_J6_bitCount_0f7a4 : Cond.static yJ6_bitCount_0f7a4 ∈ lwG := mG 1023 (by decide +kernel) (by decide +kernel)
theorem fl_X7_25 : Cond.fieldLink RX7 25 (TX7 0).1 (TX7 0).2.1 (TX7 0).2.2.1 ∈ lwG := mG 379 (by decide +kernel) (by decide +kernel)
theorem fi_7_0 : fI 7 0 = false := by decide +kernel
theorem fl_X7_81 : Cond.fieldLink RX7 81 (TX1 14).1 (TX1 14).2.1 (TX1 14).2.2.1 ∈ lwG := mG 195 (by decide +kernel) (by decide +kernel)
theorem zl_11 : 11 < Z1.length := by decide +kernel
theorem zk_11 : sK Z1 11 = (0, 28) := by decide +kernel
theorem zl_176 : 176 < Z1.length := by decide +kernel
theorem zk_176 : sK Z1 176 = (0, 28) := by decide +kernel
theorem icl_1 : isClan 1 := (by decide +kernel : 1 ∈ clanL)
theorem ml_X7_55 : Cond.methodLink RX7 55 yX1_lives ∈ lwG := mG 1067 (by decide +kernel) (by decide +kernel)
theorem mw_X1_become : MW yX1_become cX1_become 2 none 1 := ⟨mG 918 (by decide +kernel) (by decide +kernel), mG 124 (by decide +kernel) (by decide +kernel), by decide +kernel, ⟨by decide +kernel, by decide +kernel⟩, by decide +kernel, by decide⟩
theorem ml_X7_70 : Cond.methodLink RX7 70 yX1_become ∈ lwG := mG 1113 (by decide +kernel) (by decide +kernel)
theorem im_X1_become : Cond.instanceMethod yX1_become ∈ lwG := mG 916 (by decide +kernel) (by decide +kernel)
theorem se_X1_become : Cond.selects RX1 yX1_become yX1_become ∈ lwG := mG 917 (by decide +kernel) (by decide +kernel)
theorem fl_X10_12 : Cond.fieldLink RX10 12 (TX10 0).1 (TX10 0).2.1 (TX10 0).2.2.1 ∈ lwG := mG 509 (by decide +kernel) (by decide +kernel)
theorem fi_10_0 : fI 10 0 = false := by decide +kernel
theorem ml_X10_104 : Cond.methodLink RX10 104 yX1_lives ∈ lwG := mG 575 (by decide +kernel) (by decide +kernel)
theorem fl_X10_42 : Cond.fieldLink RX10 42 (TX10 4).1 (TX10 4).2.1 (TX10 4).2.2.1 ∈ lwG := mG 513 (by decide +kernel) (by decide +kernel)
theorem fi_10_4 : fI 10 4 = false := by decide +kernel
theorem mw_X7_bestHeir : MW yX7_bestHeir cX7_bestHeir 7 (some .int) 2 := ⟨mG 1181 (by decide +kernel) (by decide +kernel), mG 129 (by decide +kernel) (by decide +kernel), by decide +kernel, ⟨by decide +kernel, by decide +kernel⟩, by decide +kernel, by decide⟩
theorem ml_X10_312 : Cond.methodLink RX10 312 yX7_bestHeir ∈ lwG := mG 1178 (by decide +kernel) (by decide +kernel)
theorem im_X7_bestHeir : Cond.instanceMethod yX7_bestHeir ∈ lwG := mG 1179 (by decide +kernel) (by decide +kernel)
theorem se_X7_bestHeir : Cond.selects RX7 yX7_bestHeir yX7_bestHeir ∈ lwG := mG 1180 (by decide +kernel) (by decide +kernel)
theorem zr_0_2 : sR Z1 0 2 = some 32 := by decide +kernel
theorem zl_32 : 32 < Z1.length := by decide +kernel
theorem zk_32 : sK Z1 32 = (2, 2) := by decide +kernel
theorem zr_32_0 : sR Z1 32 0 = some 33 := by decide +kernel
theorem kb_m2 : (Int8.ofInt (-2)).toInt32 = (-2 : Int32) := by decide +kernel
theorem fl_X10_26 : Cond.fieldLink RX10 26 (TX10 2).1 (TX10 2).2.1 (TX10 2).2.2.1 ∈ lwG := mG 511 (by decide +kernel) (by decide +kernel)
theorem fi_10_2 : fI 10 2 = false := by decide +kernel
theorem fl_X10_273 : Cond.fieldLink RX10 273 (TX0 1).1 (TX0 1).2.1 (TX0 1).2.2.1 ∈ lwG := mG 342 (by decide +kernel) (by decide +kernel)
theorem fi_0_1 : fI 0 1 = true := by decide +kernel
theorem ki_5 : Int32.ofInt (5) = (5 : Int32) := by decide +kernel
theorem fl_X10_276 : Cond.fieldLink RX10 276 (TX0 0).1 (TX0 0).2.1 (TX0 0).2.2.1 ∈ lwG := mG 339 (by decide +kernel) (by decide +kernel)
theorem fi_0_0 : fI 0 0 = false := by decide +kernel
theorem zl_33 : 33 < Z1.length := by decide +kernel
theorem zk_33 : sK Z1 33 = (0, 1000) := by decide +kernel
theorem zr_0_3 : sR Z1 0 3 = some 34 := by decide +kernel
theorem zl_34 : 34 < Z1.length := by decide +kernel
theorem zk_34 : sK Z1 34 = (4, 4) := by decide +kernel
theorem zr_34_0 : sR Z1 34 0 = some 35 := by decide +kernel
theorem zr_34_1 : sR Z1 34 1 = some 36 := by decide +kernel
theorem fl_X2_11 : Cond.fieldLink RX2 11 (TX2 0).1 (TX2 0).2.1 (TX2 0).2.2.1 ∈ lwG := mG 357 (by decide +kernel) (by decide +kernel)
theorem fi_2_0 : fI 2 0 = false := by decide +kernel
theorem fl_X2_19 : Cond.fieldLink RX2 19 (TX2 2).1 (TX2 2).2.1 (TX2 2).2.2.1 ∈ lwG := mG 359 (by decide +kernel) (by decide +kernel)
theorem fi_2_2 : fI 2 2 = true := by decide +kernel
theorem zl_35 : 35 < Z1.length := by decide +kernel
theorem zk_35 : sK Z1 35 = (1, 8) := by decide +kernel
theorem ml_X2_27 : Cond.methodLink RX2 27 yX1_become ∈ lwG := mG 915 (by decide +kernel) (by decide +kernel)
theorem fl_X2_15 : Cond.fieldLink RX2 15 (TX2 1).1 (TX2 1).2.1 (TX2 1).2.2.1 ∈ lwG := mG 358 (by decide +kernel) (by decide +kernel)
theorem fi_2_1 : fI 2 1 = false := by decide +kernel
theorem fl_X2_31 : Cond.fieldLink RX2 31 (TX0 1).1 (TX0 1).2.1 (TX0 1).2.2.1 ∈ lwG := mG 341 (by decide +kernel) (by decide +kernel)
theorem zl_36 : 36 < Z1.length := by decide +kernel
theorem zk_36 : sK Z1 36 = (0, 8) := by decide +kernel
theorem nz_8 : ¬ (8 : Int32) = 0 := by decide +kernel
theorem fl_X2_23 : Cond.fieldLink RX2 23 (TX2 3).1 (TX2 3).2.1 (TX2 3).2.2.1 ∈ lwG := mG 360 (by decide +kernel) (by decide +kernel)
theorem fi_2_3 : fI 2 3 = true := by decide +kernel
theorem con_X1_107 : Cond.constant RX1 107 (1664525) ∈ lwG := mG 956 (by decide +kernel) (by decide +kernel)
theorem con_X1_108 : Cond.constant RX1 108 (1013904223) ∈ lwG := mG 957 (by decide +kernel) (by decide +kernel)
theorem zr_17_0 : sR Z1 17 0 = some 18 := by decide +kernel
theorem zr_17_1 : sR Z1 17 1 = some 25 := by decide +kernel
theorem zr_17_2 : sR Z1 17 2 = some 26 := by decide +kernel
theorem zr_17_4 : sR Z1 17 4 = some 28 := by decide +kernel
theorem zr_17_3 : sR Z1 17 3 = some 27 := by decide +kernel
theorem fl_X6_25 : Cond.fieldLink RX6 25 (TX6 3).1 (TX6 3).2.1 (TX6 3).2.2.1 ∈ lwG := mG 299 (by decide +kernel) (by decide +kernel)
theorem fi_6_3 : fI 6 3 = false := by decide +kernel
theorem zl_27 : 27 < Z1.length := by decide +kernel
theorem zk_27 : sK Z1 27 = (0, 144) := by decide +kernel
theorem fl_X6_18 : Cond.fieldLink RX6 18 (TX6 1).1 (TX6 1).2.1 (TX6 1).2.2.1 ∈ lwG := mG 294 (by decide +kernel) (by decide +kernel)
theorem fi_6_1 : fI 6 1 = false := by decide +kernel
theorem zl_25 : 25 < Z1.length := by decide +kernel
theorem zk_25 : sK Z1 25 = (0, 12) := by decide +kernel
theorem fl_X6_22 : Cond.fieldLink RX6 22 (TX6 2).1 (TX6 2).2.1 (TX6 2).2.2.1 ∈ lwG := mG 297 (by decide +kernel) (by decide +kernel)
theorem fi_6_2 : fI 6 2 = false := by decide +kernel
theorem zl_26 : 26 < Z1.length := by decide +kernel
theorem zk_26 : sK Z1 26 = (0, 144) := by decide +kernel
theorem fl_X6_28 : Cond.fieldLink RX6 28 (TX6 4).1 (TX6 4).2.1 (TX6 4).2.2.1 ∈ lwG := mG 301 (by decide +kernel) (by decide +kernel)
theorem fi_6_4 : fI 6 4 = false := by decide +kernel
theorem zl_28 : 28 < Z1.length := by decide +kernel
theorem zk_28 : sK Z1 28 = (0, 144) := by decide +kernel
theorem zl_18 : 18 < Z1.length := by decide +kernel
theorem zk_18 : sK Z1 18 = (5, 8) := by decide +kernel
theorem zr_18_6 : sR Z1 18 6 = some 23 := by decide +kernel
theorem zr_18_4 : sR Z1 18 4 = some 21 := by decide +kernel
theorem zr_18_5 : sR Z1 18 5 = some 22 := by decide +kernel
theorem zr_18_3 : sR Z1 18 3 = some 20 := by decide +kernel
theorem kb_99 : (Int8.ofInt (99)).toInt32 = (99 : Int32) := by decide +kernel
theorem zr_18_0 : sR Z1 18 0 = some 19 := by decide +kernel
theorem zr_18_7 : sR Z1 18 7 = some 24 := by decide +kernel
theorem zl_24 : 24 < Z1.length := by decide +kernel
theorem zk_24 : sK Z1 24 = (0, 64) := by decide +kernel
theorem fl_X3_34 : Cond.fieldLink RX3 34 (TX3 7).1 (TX3 7).2.1 (TX3 7).2.2.1 ∈ lwG := mG 273 (by decide +kernel) (by decide +kernel)
theorem fi_3_7 : fI 3 7 = false := by decide +kernel
theorem fl_X3_9 : Cond.fieldLink RX3 9 (TX3 0).1 (TX3 0).2.1 (TX3 0).2.2.1 ∈ lwG := mG 260 (by decide +kernel) (by decide +kernel)
theorem fi_3_0 : fI 3 0 = false := by decide +kernel
theorem zl_19 : 19 < Z1.length := by decide +kernel
theorem zk_19 : sK Z1 19 = (0, 400) := by decide +kernel
theorem ks_20000 : (Int16.ofInt (20000)).toInt32 = (20000 : Int32) := by decide +kernel
theorem ks_20007 : (Int16.ofInt (20007)).toInt32 = (20007 : Int32) := by decide +kernel
theorem ml_X3_91 : Cond.methodLink RX3 91 yX3_combined ∈ lwG := mG 1032 (by decide +kernel) (by decide +kernel)
theorem mw_X3_combined : MW yX3_combined cX3_combined 3 (some .int) 3 := ⟨mG 1034 (by decide +kernel) (by decide +kernel), mG 126 (by decide +kernel) (by decide +kernel), by decide +kernel, ⟨by decide +kernel, by decide +kernel⟩, by decide +kernel, by decide⟩
theorem st_X3_combined : Cond.static yX3_combined ∈ lwG := mG 1033 (by decide +kernel) (by decide +kernel)
theorem kb_64 : (Int8.ofInt (64)).toInt32 = (64 : Int32) := by decide +kernel
theorem ks_10000 : (Int16.ofInt (10000)).toInt32 = (10000 : Int32) := by decide +kernel
theorem fl_X3_31 : Cond.fieldLink RX3 31 (TX3 6).1 (TX3 6).2.1 (TX3 6).2.2.1 ∈ lwG := mG 272 (by decide +kernel) (by decide +kernel)
theorem fi_3_6 : fI 3 6 = false := by decide +kernel
theorem zl_23 : 23 < Z1.length := by decide +kernel
theorem zk_23 : sK Z1 23 = (0, 10) := by decide +kernel
theorem fl_X3_22 : Cond.fieldLink RX3 22 (TX3 3).1 (TX3 3).2.1 (TX3 3).2.2.1 ∈ lwG := mG 266 (by decide +kernel) (by decide +kernel)
theorem fi_3_3 : fI 3 3 = false := by decide +kernel
theorem zl_20 : 20 < Z1.length := by decide +kernel
theorem zk_20 : sK Z1 20 = (0, 16) := by decide +kernel
theorem fl_X3_25 : Cond.fieldLink RX3 25 (TX3 4).1 (TX3 4).2.1 (TX3 4).2.2.1 ∈ lwG := mG 268 (by decide +kernel) (by decide +kernel)
theorem fi_3_4 : fI 3 4 = false := by decide +kernel
theorem zl_21 : 21 < Z1.length := by decide +kernel
theorem zk_21 : sK Z1 21 = (0, 16) := by decide +kernel
theorem mw_X3_run : MW yX3_run cX3_run 6 (some .int) 2 := ⟨mG 1031 (by decide +kernel) (by decide +kernel), mG 126 (by decide +kernel) (by decide +kernel), by decide +kernel, ⟨by decide +kernel, by decide +kernel⟩, by decide +kernel, by decide⟩
theorem ml_X3_88 : Cond.methodLink RX3 88 yX3_run ∈ lwG := mG 1028 (by decide +kernel) (by decide +kernel)
theorem im_X3_run : Cond.instanceMethod yX3_run ∈ lwG := mG 1030 (by decide +kernel) (by decide +kernel)
theorem se_X3_run : Cond.selects RX3 yX3_run yX3_run ∈ lwG := mG 22 (by decide +kernel) (by decide +kernel)
theorem fl_X3_28 : Cond.fieldLink RX3 28 (TX3 5).1 (TX3 5).2.1 (TX3 5).2.2.1 ∈ lwG := mG 270 (by decide +kernel) (by decide +kernel)
theorem fi_3_5 : fI 3 5 = false := by decide +kernel
theorem zl_22 : 22 < Z1.length := by decide +kernel
theorem zk_22 : sK Z1 22 = (0, 16) := by decide +kernel
theorem fl_X3_19 : Cond.fieldLink RX3 19 (TX3 2).1 (TX3 2).2.1 (TX3 2).2.2.1 ∈ lwG := mG 263 (by decide +kernel) (by decide +kernel)
theorem fi_3_2 : fI 3 2 = true := by decide +kernel
theorem kb_6 : (Int8.ofInt (6)).toInt32 = (6 : Int32) := by decide +kernel
theorem mw_X1_ownedBy : MW yX1_ownedBy cX1_ownedBy 4 (some .int) 1 := ⟨mG 1021 (by decide +kernel) (by decide +kernel), mG 124 (by decide +kernel) (by decide +kernel), by decide +kernel, ⟨by decide +kernel, by decide +kernel⟩, by decide +kernel, by decide⟩
theorem ml_X3_73 : Cond.methodLink RX3 73 yX1_ownedBy ∈ lwG := mG 1018 (by decide +kernel) (by decide +kernel)
theorem im_X1_ownedBy : Cond.instanceMethod yX1_ownedBy ∈ lwG := mG 1019 (by decide +kernel) (by decide +kernel)
theorem se_X1_ownedBy : Cond.selects RX1 yX1_ownedBy yX1_ownedBy ∈ lwG := mG 1020 (by decide +kernel) (by decide +kernel)
theorem ml_X3_77 : Cond.methodLink RX3 77 yJ6_bitCount_0f7a4 ∈ lwG := mG 1022 (by decide +kernel) (by decide +kernel)
theorem ib_6_10 : inB (6 : Int32) 10 = true := by decide +kernel
theorem ix_6 : ix (6 : Int32) = 6 := by decide +kernel
theorem kb_7 : (Int8.ofInt (7)).toInt32 = (7 : Int32) := by decide +kernel
theorem fl_X3_82 : Cond.fieldLink RX3 82 (TX1 10).1 (TX1 10).2.1 (TX1 10).2.2.1 ∈ lwG := mG 185 (by decide +kernel) (by decide +kernel)
theorem ib_7_10 : inB (7 : Int32) 10 = true := by decide +kernel
theorem ix_7 : ix (7 : Int32) = 7 := by decide +kernel
theorem fl_X3_85 : Cond.fieldLink RX3 85 (TX1 11).1 (TX1 11).2.1 (TX1 11).2.2.1 ∈ lwG := mG 188 (by decide +kernel) (by decide +kernel)
theorem ib_8_10 : inB (8 : Int32) 10 = true := by decide +kernel
theorem ix_8 : ix (8 : Int32) = 8 := by decide +kernel
theorem kb_9 : (Int8.ofInt (9)).toInt32 = (9 : Int32) := by decide +kernel
theorem fl_X3_56 : Cond.fieldLink RX3 56 (TX1 1).1 (TX1 1).2.1 (TX1 1).2.2.1 ∈ lwG := mG 161 (by decide +kernel) (by decide +kernel)
theorem ib_9_10 : inB (9 : Int32) 10 = true := by decide +kernel
theorem ix_9 : ix (9 : Int32) = 9 := by decide +kernel
theorem fl_X3_70 : Cond.fieldLink RX3 70 (TX1 12).1 (TX1 12).2.1 (TX1 12).2.2.1 ∈ lwG := mG 190 (by decide +kernel) (by decide +kernel)
theorem fl_X3_59 : Cond.fieldLink RX3 59 (TX1 7).1 (TX1 7).2.1 (TX1 7).2.2.1 ∈ lwG := mG 177 (by decide +kernel) (by decide +kernel)
theorem ib_2_10 : inB (2 : Int32) 10 = true := by decide +kernel
theorem ix_2 : ix (2 : Int32) = 2 := by decide +kernel
theorem ki_3 : Int32.ofInt (3) = (3 : Int32) := by decide +kernel
theorem mw_X1_stepsBetween : MW yX1_stepsBetween cX1_stepsBetween 4 (some .int) 2 := ⟨mG 1016 (by decide +kernel) (by decide +kernel), mG 124 (by decide +kernel) (by decide +kernel), by decide +kernel, ⟨by decide +kernel, by decide +kernel⟩, by decide +kernel, by decide⟩
theorem ml_X3_62 : Cond.methodLink RX3 62 yX1_stepsBetween ∈ lwG := mG 1013 (by decide +kernel) (by decide +kernel)
theorem im_X1_stepsBetween : Cond.instanceMethod yX1_stepsBetween ∈ lwG := mG 1014 (by decide +kernel) (by decide +kernel)
theorem se_X1_stepsBetween : Cond.selects RX1 yX1_stepsBetween yX1_stepsBetween ∈ lwG := mG 1015 (by decide +kernel) (by decide +kernel)
theorem ib_3_10 : inB (3 : Int32) 10 = true := by decide +kernel
theorem ix_3 : ix (3 : Int32) = 3 := by decide +kernel
theorem mw_X1_isParent : MW yX1_isParent cX1_isParent 3 (some .boolean) 2 := ⟨mG 910 (by decide +kernel) (by decide +kernel), mG 124 (by decide +kernel) (by decide +kernel), by decide +kernel, ⟨by decide +kernel, by decide +kernel⟩, by decide +kernel, by decide⟩
theorem ml_X3_66 : Cond.methodLink RX3 66 yX1_isParent ∈ lwG := mG 1017 (by decide +kernel) (by decide +kernel)
theorem im_X1_isParent : Cond.instanceMethod yX1_isParent ∈ lwG := mG 908 (by decide +kernel) (by decide +kernel)
theorem se_X1_isParent : Cond.selects RX1 yX1_isParent yX1_isParent ∈ lwG := mG 909 (by decide +kernel) (by decide +kernel)
theorem ib_0_10 : inB (0 : Int32) 10 = true := by decide +kernel
theorem ix_0 : ix (0 : Int32) = 0 := by decide +kernel
theorem kb_14 : (Int8.ofInt (14)).toInt32 = (14 : Int32) := by decide +kernel
theorem kb_20 : (Int8.ofInt (20)).toInt32 = (20 : Int32) := by decide +kernel
theorem fl_X3_43 : Cond.fieldLink RX3 43 (TX1 3).1 (TX1 3).2.1 (TX1 3).2.2.1 ∈ lwG := mG 167 (by decide +kernel) (by decide +kernel)
theorem ml_X3_48 : Cond.methodLink RX3 48 yX1_lives ∈ lwG := mG 1008 (by decide +kernel) (by decide +kernel)
theorem mw_X3_worthOf : MW yX3_worthOf cX3_worthOf 7 (some .int) 4 := ⟨mG 1012 (by decide +kernel) (by decide +kernel), mG 126 (by decide +kernel) (by decide +kernel), by decide +kernel, ⟨by decide +kernel, by decide +kernel⟩, by decide +kernel, by decide⟩
theorem ml_X3_52 : Cond.methodLink RX3 52 yX3_worthOf ∈ lwG := mG 1009 (by decide +kernel) (by decide +kernel)
theorem im_X3_worthOf : Cond.instanceMethod yX3_worthOf ∈ lwG := mG 1010 (by decide +kernel) (by decide +kernel)
theorem se_X3_worthOf : Cond.selects RX3 yX3_worthOf yX3_worthOf ∈ lwG := mG 1011 (by decide +kernel) (by decide +kernel)
theorem fl_X0_15 : Cond.fieldLink RX0 15 (TX0 1).1 (TX0 1).2.1 (TX0 1).2.2.1 ∈ lwG := mG 340 (by decide +kernel) (by decide +kernel)
theorem ks_200 : (Int16.ofInt (200)).toInt32 = (200 : Int32) := by decide +kernel
theorem fl_X0_11 : Cond.fieldLink RX0 11 (TX0 0).1 (TX0 0).2.1 (TX0 0).2.2.1 ∈ lwG := mG 338 (by decide +kernel) (by decide +kernel)
theorem mw_X0_write : MW yX0_write cX0_write 7 none 5 := ⟨mG 602 (by decide +kernel) (by decide +kernel), mG 127 (by decide +kernel) (by decide +kernel), by decide +kernel, ⟨by decide +kernel, by decide +kernel⟩, by decide +kernel, by decide⟩
theorem ml_X1_101 : Cond.methodLink RX1 101 yX0_write ∈ lwG := mG 599 (by decide +kernel) (by decide +kernel)
theorem im_X0_write : Cond.instanceMethod yX0_write ∈ lwG := mG 600 (by decide +kernel) (by decide +kernel)
theorem se_X0_write : Cond.selects RX0 yX0_write yX0_write ∈ lwG := mG 601 (by decide +kernel) (by decide +kernel)
theorem mw_X1_endLoan : MW yX1_endLoan cX1_endLoan 2 none 1 := ⟨mG 594 (by decide +kernel) (by decide +kernel), mG 124 (by decide +kernel) (by decide +kernel), by decide +kernel, ⟨by decide +kernel, by decide +kernel⟩, by decide +kernel, by decide⟩
theorem ml_X1_109 : Cond.methodLink RX1 109 yX1_endLoan ∈ lwG := mG 994 (by decide +kernel) (by decide +kernel)
theorem im_X1_endLoan : Cond.instanceMethod yX1_endLoan ∈ lwG := mG 592 (by decide +kernel) (by decide +kernel)
theorem se_X1_endLoan : Cond.selects RX1 yX1_endLoan yX1_endLoan ∈ lwG := mG 593 (by decide +kernel) (by decide +kernel)
theorem mw_X1_pass : MW yX1_pass cX1_pass 5 none 4 := ⟨mG 598 (by decide +kernel) (by decide +kernel), mG 124 (by decide +kernel) (by decide +kernel), by decide +kernel, ⟨by decide +kernel, by decide +kernel⟩, by decide +kernel, by decide⟩
theorem ml_X1_137 : Cond.methodLink RX1 137 yX1_pass ∈ lwG := mG 1035 (by decide +kernel) (by decide +kernel)
theorem im_X1_pass : Cond.instanceMethod yX1_pass ∈ lwG := mG 596 (by decide +kernel) (by decide +kernel)
theorem se_X1_pass : Cond.selects RX1 yX1_pass yX1_pass ∈ lwG := mG 597 (by decide +kernel) (by decide +kernel)
theorem fl_X1_127 : Cond.fieldLink RX1 127 (TX6 0).1 (TX6 0).2.1 (TX6 0).2.2.1 ∈ lwG := mG 293 (by decide +kernel) (by decide +kernel)
theorem fi_6_0 : fI 6 0 = false := by decide +kernel
theorem mw_X3_heirOf : MW yX3_heirOf cX3_heirOf 8 (some .int) 3 := ⟨mG 1007 (by decide +kernel) (by decide +kernel), mG 126 (by decide +kernel) (by decide +kernel), by decide +kernel, ⟨by decide +kernel, by decide +kernel⟩, by decide +kernel, by decide⟩
theorem ml_X1_131 : Cond.methodLink RX1 131 yX3_heirOf ∈ lwG := mG 1004 (by decide +kernel) (by decide +kernel)
theorem im_X3_heirOf : Cond.instanceMethod yX3_heirOf ∈ lwG := mG 1005 (by decide +kernel) (by decide +kernel)
theorem se_X3_heirOf : Cond.selects RX3 yX3_heirOf yX3_heirOf ∈ lwG := mG 1006 (by decide +kernel) (by decide +kernel)
theorem mw_X6_heirByWill : MW yX6_heirByWill cX6_heirByWill 7 (some .int) 3 := ⟨mG 1003 (by decide +kernel) (by decide +kernel), mG 125 (by decide +kernel) (by decide +kernel), by decide +kernel, ⟨by decide +kernel, by decide +kernel⟩, by decide +kernel, by decide⟩
theorem ml_X1_121 : Cond.methodLink RX1 121 yX6_heirByWill ∈ lwG := mG 1000 (by decide +kernel) (by decide +kernel)
theorem im_X6_heirByWill : Cond.instanceMethod yX6_heirByWill ∈ lwG := mG 1001 (by decide +kernel) (by decide +kernel)
theorem se_X6_heirByWill : Cond.selects RX6 yX6_heirByWill yX6_heirByWill ∈ lwG := mG 1002 (by decide +kernel) (by decide +kernel)
theorem mw_X1_die : MW yX1_die cX1_die 7 none 3 := ⟨mG 999 (by decide +kernel) (by decide +kernel), mG 124 (by decide +kernel) (by decide +kernel), by decide +kernel, ⟨by decide +kernel, by decide +kernel⟩, by decide +kernel, by decide⟩
theorem ml_X1_117 : Cond.methodLink RX1 117 yX1_die ∈ lwG := mG 996 (by decide +kernel) (by decide +kernel)
theorem im_X1_die : Cond.instanceMethod yX1_die ∈ lwG := mG 997 (by decide +kernel) (by decide +kernel)
theorem se_X1_die : Cond.selects RX1 yX1_die yX1_die ∈ lwG := mG 998 (by decide +kernel) (by decide +kernel)
theorem mw_X1_draw : MW yX1_draw cX1_draw 2 (some .int) 1 := ⟨mG 955 (by decide +kernel) (by decide +kernel), mG 124 (by decide +kernel) (by decide +kernel), by decide +kernel, ⟨by decide +kernel, by decide +kernel⟩, by decide +kernel, by decide⟩
theorem ml_X1_113 : Cond.methodLink RX1 113 yX1_draw ∈ lwG := mG 995 (by decide +kernel) (by decide +kernel)
theorem im_X1_draw : Cond.instanceMethod yX1_draw ∈ lwG := mG 953 (by decide +kernel) (by decide +kernel)
theorem se_X1_draw : Cond.selects RX1 yX1_draw yX1_draw ∈ lwG := mG 954 (by decide +kernel) (by decide +kernel)
theorem fl_X10_33 : Cond.fieldLink RX10 33 (TX10 3).1 (TX10 3).2.1 (TX10 3).2.2.1 ∈ lwG := mG 512 (by decide +kernel) (by decide +kernel)
theorem fi_10_3 : fI 10 3 = false := by decide +kernel
theorem mw_X2_keep : MW yX2_keep cX2_keep 3 none 2 := ⟨mG 914 (by decide +kernel) (by decide +kernel), mG 128 (by decide +kernel) (by decide +kernel), by decide +kernel, ⟨by decide +kernel, by decide +kernel⟩, by decide +kernel, by decide⟩
theorem ml_X10_175 : Cond.methodLink RX10 175 yX2_keep ∈ lwG := mG 911 (by decide +kernel) (by decide +kernel)
theorem im_X2_keep : Cond.instanceMethod yX2_keep ∈ lwG := mG 912 (by decide +kernel) (by decide +kernel)
theorem se_X2_keep : Cond.selects RX2 yX2_keep yX2_keep ∈ lwG := mG 913 (by decide +kernel) (by decide +kernel)
theorem mw_X1_endDay : MW yX1_endDay cX1_endDay 7 (some .int) 3 := ⟨mG 993 (by decide +kernel) (by decide +kernel), mG 124 (by decide +kernel) (by decide +kernel), by decide +kernel, ⟨by decide +kernel, by decide +kernel⟩, by decide +kernel, by decide⟩
theorem ml_X10_226 : Cond.methodLink RX10 226 yX1_endDay ∈ lwG := mG 990 (by decide +kernel) (by decide +kernel)
theorem im_X1_endDay : Cond.instanceMethod yX1_endDay ∈ lwG := mG 991 (by decide +kernel) (by decide +kernel)
theorem se_X1_endDay : Cond.selects RX1 yX1_endDay yX1_endDay ∈ lwG := mG 992 (by decide +kernel) (by decide +kernel)
theorem kb_100 : (Int8.ofInt (100)).toInt32 = (100 : Int32) := by decide +kernel
theorem fl_X10_111 : Cond.fieldLink RX10 111 (TX1 1).1 (TX1 1).2.1 (TX1 1).2.2.1 ∈ lwG := mG 160 (by decide +kernel) (by decide +kernel)
theorem ks_9999 : (Int16.ofInt (9999)).toInt32 = (9999 : Int32) := by decide +kernel
theorem zr_1_19 : sR Z1 1 19 = some 16 := by decide +kernel
theorem zr_1_18 : sR Z1 1 18 = some 15 := by decide +kernel
theorem zr_1_17 : sR Z1 1 17 = some 14 := by decide +kernel
theorem fl_X7_47 : Cond.fieldLink RX7 47 (TX1 4).1 (TX1 4).2.1 (TX1 4).2.2.1 ∈ lwG := mG 170 (by decide +kernel) (by decide +kernel)
theorem mw_X7_together : MW yX7_together cX7_together 4 (some .int) 1 := ⟨mG 985 (by decide +kernel) (by decide +kernel), mG 129 (by decide +kernel) (by decide +kernel), by decide +kernel, ⟨by decide +kernel, by decide +kernel⟩, by decide +kernel, by decide⟩
theorem ml_X7_40 : Cond.methodLink RX7 40 yX7_together ∈ lwG := mG 982 (by decide +kernel) (by decide +kernel)
theorem im_X7_together : Cond.instanceMethod yX7_together ∈ lwG := mG 984 (by decide +kernel) (by decide +kernel)
theorem se_X7_together : Cond.selects RX7 yX7_together yX7_together ∈ lwG := mG 21 (by decide +kernel) (by decide +kernel)
theorem kb_13 : (Int8.ofInt (13)).toInt32 = (13 : Int32) := by decide +kernel
theorem fl_X10_217 : Cond.fieldLink RX10 217 (TX6 8).1 (TX6 8).2.1 (TX6 8).2.2.1 ∈ lwG := mG 312 (by decide +kernel) (by decide +kernel)
theorem fl_X10_211 : Cond.fieldLink RX10 211 (TX1 17).1 (TX1 17).2.1 (TX1 17).2.2.1 ∈ lwG := mG 201 (by decide +kernel) (by decide +kernel)
theorem zl_14 : 14 < Z1.length := by decide +kernel
theorem zk_14 : sK Z1 14 = (0, 8) := by decide +kernel
theorem fl_X10_214 : Cond.fieldLink RX10 214 (TX1 18).1 (TX1 18).2.1 (TX1 18).2.2.1 ∈ lwG := mG 203 (by decide +kernel) (by decide +kernel)
theorem zl_15 : 15 < Z1.length := by decide +kernel
theorem zk_15 : sK Z1 15 = (0, 8) := by decide +kernel
theorem fl_X10_223 : Cond.fieldLink RX10 223 (TX1 19).1 (TX1 19).2.1 (TX1 19).2.2.1 ∈ lwG := mG 205 (by decide +kernel) (by decide +kernel)
theorem zl_16 : 16 < Z1.length := by decide +kernel
theorem zk_16 : sK Z1 16 = (0, 8) := by decide +kernel
theorem mw_X7_signers : MW yX7_signers cX7_signers 5 (some .int) 1 := ⟨mG 1075 (by decide +kernel) (by decide +kernel), mG 129 (by decide +kernel) (by decide +kernel), by decide +kernel, ⟨by decide +kernel, by decide +kernel⟩, by decide +kernel, by decide⟩
theorem ml_X10_264 : Cond.methodLink RX10 264 yX7_signers ∈ lwG := mG 1072 (by decide +kernel) (by decide +kernel)
theorem im_X7_signers : Cond.instanceMethod yX7_signers ∈ lwG := mG 1073 (by decide +kernel) (by decide +kernel)
theorem se_X7_signers : Cond.selects RX7 yX7_signers yX7_signers ∈ lwG := mG 1074 (by decide +kernel) (by decide +kernel)
theorem mw_X7_writers : MW yX7_writers cX7_writers 4 (some .int) 1 := ⟨mG 1054 (by decide +kernel) (by decide +kernel), mG 129 (by decide +kernel) (by decide +kernel), by decide +kernel, ⟨by decide +kernel, by decide +kernel⟩, by decide +kernel, by decide⟩
theorem ml_X10_252 : Cond.methodLink RX10 252 yX7_writers ∈ lwG := mG 1051 (by decide +kernel) (by decide +kernel)
theorem im_X7_writers : Cond.instanceMethod yX7_writers ∈ lwG := mG 1052 (by decide +kernel) (by decide +kernel)
theorem se_X7_writers : Cond.selects RX7 yX7_writers yX7_writers ∈ lwG := mG 1053 (by decide +kernel) (by decide +kernel)
theorem mw_X7_needed : MW yX7_needed cX7_needed 5 (some .int) 1 := ⟨mG 1080 (by decide +kernel) (by decide +kernel), mG 129 (by decide +kernel) (by decide +kernel), by decide +kernel, ⟨by decide +kernel, by decide +kernel⟩, by decide +kernel, by decide⟩
theorem ml_X10_267 : Cond.methodLink RX10 267 yX7_needed ∈ lwG := mG 1077 (by decide +kernel) (by decide +kernel)
theorem im_X7_needed : Cond.instanceMethod yX7_needed ∈ lwG := mG 1078 (by decide +kernel) (by decide +kernel)
theorem se_X7_needed : Cond.selects RX7 yX7_needed yX7_needed ∈ lwG := mG 1079 (by decide +kernel) (by decide +kernel)
theorem zr_1_10 : sR Z1 1 10 = some 7 := by decide +kernel
theorem ml_X10_130 : Cond.methodLink RX10 130 yX1_endLoan ∈ lwG := mG 591 (by decide +kernel) (by decide +kernel)
theorem ml_X10_134 : Cond.methodLink RX10 134 yX1_pass ∈ lwG := mG 595 (by decide +kernel) (by decide +kernel)
theorem fl_X10_121 : Cond.fieldLink RX10 121 (TX1 10).1 (TX1 10).2.1 (TX1 10).2.2.1 ∈ lwG := mG 184 (by decide +kernel) (by decide +kernel)
theorem zl_7 : 7 < Z1.length := by decide +kernel
theorem zk_7 : sK Z1 7 = (0, 12) := by decide +kernel
theorem ml_X10_201 : Cond.methodLink RX10 201 yX1_draw ∈ lwG := mG 952 (by decide +kernel) (by decide +kernel)
theorem ml_X10_127 : Cond.methodLink RX10 127 yX10_isLetter ∈ lwG := mG 588 (by decide +kernel) (by decide +kernel)
theorem mw_X10_isLetter : MW yX10_isLetter cX10_isLetter 1 (some .boolean) 1 := ⟨mG 590 (by decide +kernel) (by decide +kernel), mG 123 (by decide +kernel) (by decide +kernel), by decide +kernel, ⟨by decide +kernel, by decide +kernel⟩, by decide +kernel, by decide⟩
theorem st_X10_isLetter : Cond.static yX10_isLetter ∈ lwG := mG 589 (by decide +kernel) (by decide +kernel)
theorem fl_X10_192 : Cond.fieldLink RX10 192 (TX1 14).1 (TX1 14).2.1 (TX1 14).2.2.1 ∈ lwG := mG 194 (by decide +kernel) (by decide +kernel)
theorem mw_X7_speechless : MW yX7_speechless cX7_speechless 3 (some .int) 0 := ⟨mG 1189 (by decide +kernel) (by decide +kernel), mG 129 (by decide +kernel) (by decide +kernel), by decide +kernel, ⟨by decide +kernel, by decide +kernel⟩, by decide +kernel, by decide⟩
theorem ml_X10_315 : Cond.methodLink RX10 315 yX7_speechless ∈ lwG := mG 1186 (by decide +kernel) (by decide +kernel)
theorem im_X7_speechless : Cond.instanceMethod yX7_speechless ∈ lwG := mG 1187 (by decide +kernel) (by decide +kernel)
theorem se_X7_speechless : Cond.selects RX7 yX7_speechless yX7_speechless ∈ lwG := mG 1188 (by decide +kernel) (by decide +kernel)
theorem zr_0_5 : sR Z1 0 5 = some 184 := by decide +kernel
theorem zl_184 : 184 < Z1.length := by decide +kernel
theorem zk_184 : sK Z1 184 = (7, 4) := by decide +kernel
theorem fl_X10_49 : Cond.fieldLink RX10 49 (TX10 5).1 (TX10 5).2.1 (TX10 5).2.2.1 ∈ lwG := mG 514 (by decide +kernel) (by decide +kernel)
theorem fi_10_5 : fI 10 5 = false := by decide +kernel
theorem fl_X10_138 : Cond.fieldLink RX10 138 (TX5 1).1 (TX5 1).2.1 (TX5 1).2.2.1 ∈ lwG := mG 409 (by decide +kernel) (by decide +kernel)
theorem fi_5_1 : fI 5 1 = true := by decide +kernel
theorem fl_X10_165 : Cond.fieldLink RX10 165 (TX5 2).1 (TX5 2).2.1 (TX5 2).2.2.1 ∈ lwG := mG 411 (by decide +kernel) (by decide +kernel)
theorem fi_5_2 : fI 5 2 = true := by decide +kernel
theorem fl_X10_168 : Cond.fieldLink RX10 168 (TX5 3).1 (TX5 3).2.1 (TX5 3).2.2.1 ∈ lwG := mG 414 (by decide +kernel) (by decide +kernel)
theorem fi_5_3 : fI 5 3 = true := by decide +kernel
theorem zr_184_0 : sR Z1 184 0 = some 185 := by decide +kernel
theorem fl_X5_15 : Cond.fieldLink RX5 15 (TX5 1).1 (TX5 1).2.1 (TX5 1).2.2.1 ∈ lwG := mG 405 (by decide +kernel) (by decide +kernel)
theorem ks_400 : (Int16.ofInt (400)).toInt32 = (400 : Int32) := by decide +kernel
theorem fl_X5_9 : Cond.fieldLink RX5 9 (TX5 0).1 (TX5 0).2.1 (TX5 0).2.2.1 ∈ lwG := mG 401 (by decide +kernel) (by decide +kernel)
theorem fi_5_0 : fI 5 0 = false := by decide +kernel
theorem ks_255 : (Int16.ofInt (255)).toInt32 = (255 : Int32) := by decide +kernel
theorem zl_185 : 185 < Z1.length := by decide +kernel
theorem zk_185 : sK Z1 185 = (0, 400) := by decide +kernel
theorem ki_m8 : Int32.ofInt (-8) = (-8 : Int32) := by decide +kernel
theorem kb_24 : (Int8.ofInt (24)).toInt32 = (24 : Int32) := by decide +kernel
theorem mw_X5_add : MW yX5_add cX5_add 3 none 1 := ⟨mG 610 (by decide +kernel) (by decide +kernel), mG 130 (by decide +kernel) (by decide +kernel), by decide +kernel, ⟨by decide +kernel, by decide +kernel⟩, by decide +kernel, by decide⟩
theorem ml_X10_141 : Cond.methodLink RX10 141 yX5_add ∈ lwG := mG 607 (by decide +kernel) (by decide +kernel)
theorem im_X5_add : Cond.instanceMethod yX5_add ∈ lwG := mG 608 (by decide +kernel) (by decide +kernel)
theorem se_X5_add : Cond.selects RX5 yX5_add yX5_add ∈ lwG := mG 609 (by decide +kernel) (by decide +kernel)
theorem zr_1_15 : sR Z1 1 15 = some 12 := by decide +kernel
theorem fl_X10_195 : Cond.fieldLink RX10 195 (TX1 15).1 (TX1 15).2.1 (TX1 15).2.2.1 ∈ lwG := mG 197 (by decide +kernel) (by decide +kernel)
theorem zl_12 : 12 < Z1.length := by decide +kernel
theorem zk_12 : sK Z1 12 = (0, 28) := by decide +kernel
theorem mw_X10_mayHandOver : MW yX10_mayHandOver cX10_mayHandOver 4 (some .boolean) 2 := ⟨mG 943 (by decide +kernel) (by decide +kernel), mG 123 (by decide +kernel) (by decide +kernel), by decide +kernel, ⟨by decide +kernel, by decide +kernel⟩, by decide +kernel, by decide⟩
theorem ml_X10_189 : Cond.methodLink RX10 189 yX10_mayHandOver ∈ lwG := mG 940 (by decide +kernel) (by decide +kernel)
theorem im_X10_mayHandOver : Cond.instanceMethod yX10_mayHandOver ∈ lwG := mG 942 (by decide +kernel) (by decide +kernel)
theorem se_X10_mayHandOver : Cond.selects RX10 yX10_mayHandOver yX10_mayHandOver ∈ lwG := mG 18 (by decide +kernel) (by decide +kernel)
theorem con_X10_298 : Cond.constant RX10 298 (268435455) ∈ lwG := mG 1146 (by decide +kernel) (by decide +kernel)
theorem zr_0_8 : sR Z1 0 8 = some 206 := by decide +kernel
theorem zr_0_9 : sR Z1 0 9 = some 222 := by decide +kernel
theorem zr_0_10 : sR Z1 0 10 = some 237 := by decide +kernel
theorem zl_222 : 222 < Z1.length := by decide +kernel
theorem zk_222 : sK Z1 222 = (8, 9) := by decide +kernel
theorem zr_222_0 : sR Z1 222 0 = some 223 := by decide +kernel
theorem zr_222_1 : sR Z1 222 1 = some 230 := by decide +kernel
theorem zr_222_2 : sR Z1 222 2 = some 231 := by decide +kernel
theorem zr_222_3 : sR Z1 222 3 = some 232 := by decide +kernel
theorem zr_222_4 : sR Z1 222 4 = some 233 := by decide +kernel
theorem zr_222_6 : sR Z1 222 6 = some 234 := by decide +kernel
theorem zr_222_7 : sR Z1 222 7 = some 235 := by decide +kernel
theorem zr_222_8 : sR Z1 222 8 = some 236 := by decide +kernel
theorem zl_223 : 223 < Z1.length := by decide +kernel
theorem zk_223 : sK Z1 223 = (5, 8) := by decide +kernel
theorem zr_223_0 : sR Z1 223 0 = some 224 := by decide +kernel
theorem zr_223_3 : sR Z1 223 3 = some 225 := by decide +kernel
theorem zr_223_4 : sR Z1 223 4 = some 226 := by decide +kernel
theorem zr_223_5 : sR Z1 223 5 = some 227 := by decide +kernel
theorem fl_X3_15 : Cond.fieldLink RX3 15 (TX3 1).1 (TX3 1).2.1 (TX3 1).2.2.1 ∈ lwG := mG 261 (by decide +kernel) (by decide +kernel)
theorem fi_3_1 : fI 3 1 = true := by decide +kernel
theorem zl_224 : 224 < Z1.length := by decide +kernel
theorem zk_224 : sK Z1 224 = (0, 400) := by decide +kernel
theorem kn_400 : Int32.ofNat 400 = (400 : Int32) := by decide +kernel
theorem ml_X3_37 : Cond.methodLink RX3 37 arraycopyName ∈ lwG := mG 838 (by decide +kernel) (by decide +kernel)
theorem zl_225 : 225 < Z1.length := by decide +kernel
theorem zk_225 : sK Z1 225 = (0, 16) := by decide +kernel
theorem zl_226 : 226 < Z1.length := by decide +kernel
theorem zk_226 : sK Z1 226 = (0, 16) := by decide +kernel
theorem zl_227 : 227 < Z1.length := by decide +kernel
theorem zk_227 : sK Z1 227 = (0, 16) := by decide +kernel
theorem fl_X6_12 : Cond.fieldLink RX6 12 (TX6 0).1 (TX6 0).2.1 (TX6 0).2.2.1 ∈ lwG := mG 291 (by decide +kernel) (by decide +kernel)
theorem mw_X3_become : MW yX3_become cX3_become 2 none 1 := ⟨mG 837 (by decide +kernel) (by decide +kernel), mG 126 (by decide +kernel) (by decide +kernel), by decide +kernel, ⟨by decide +kernel, by decide +kernel⟩, by decide +kernel, by decide⟩
theorem ml_X6_44 : Cond.methodLink RX6 44 yX3_become ∈ lwG := mG 1207 (by decide +kernel) (by decide +kernel)
theorem im_X3_become : Cond.instanceMethod yX3_become ∈ lwG := mG 835 (by decide +kernel) (by decide +kernel)
theorem se_X3_become : Cond.selects RX3 yX3_become yX3_become ∈ lwG := mG 836 (by decide +kernel) (by decide +kernel)
theorem zl_230 : 230 < Z1.length := by decide +kernel
theorem zk_230 : sK Z1 230 = (0, 12) := by decide +kernel
theorem kn_12 : Int32.ofNat 12 = (12 : Int32) := by decide +kernel
theorem ml_X6_48 : Cond.methodLink RX6 48 arraycopyName ∈ lwG := mG 1208 (by decide +kernel) (by decide +kernel)
theorem zl_231 : 231 < Z1.length := by decide +kernel
theorem zk_231 : sK Z1 231 = (0, 144) := by decide +kernel
theorem kn_144 : Int32.ofNat 144 = (144 : Int32) := by decide +kernel
theorem zl_232 : 232 < Z1.length := by decide +kernel
theorem zk_232 : sK Z1 232 = (0, 144) := by decide +kernel
theorem zl_233 : 233 < Z1.length := by decide +kernel
theorem zk_233 : sK Z1 233 = (0, 144) := by decide +kernel
theorem fl_X6_31 : Cond.fieldLink RX6 31 (TX6 5).1 (TX6 5).2.1 (TX6 5).2.2.1 ∈ lwG := mG 303 (by decide +kernel) (by decide +kernel)
theorem fl_X6_35 : Cond.fieldLink RX6 35 (TX6 6).1 (TX6 6).2.1 (TX6 6).2.2.1 ∈ lwG := mG 306 (by decide +kernel) (by decide +kernel)
theorem zl_234 : 234 < Z1.length := by decide +kernel
theorem zk_234 : sK Z1 234 = (0, 320) := by decide +kernel
theorem kn_320 : Int32.ofNat 320 = (320 : Int32) := by decide +kernel
theorem fl_X6_38 : Cond.fieldLink RX6 38 (TX6 7).1 (TX6 7).2.1 (TX6 7).2.2.1 ∈ lwG := mG 308 (by decide +kernel) (by decide +kernel)
theorem zl_235 : 235 < Z1.length := by decide +kernel
theorem zk_235 : sK Z1 235 = (0, 8) := by decide +kernel
theorem kn_8 : Int32.ofNat 8 = (8 : Int32) := by decide +kernel
theorem fl_X6_41 : Cond.fieldLink RX6 41 (TX6 8).1 (TX6 8).2.1 (TX6 8).2.2.1 ∈ lwG := mG 310 (by decide +kernel) (by decide +kernel)
theorem zl_236 : 236 < Z1.length := by decide +kernel
theorem zk_236 : sK Z1 236 = (0, 8) := by decide +kernel
theorem zl_237 : 237 < Z1.length := by decide +kernel
theorem zk_237 : sK Z1 237 = (2, 2) := by decide +kernel
theorem zr_237_0 : sR Z1 237 0 = some 238 := by decide +kernel
theorem zl_238 : 238 < Z1.length := by decide +kernel
theorem zk_238 : sK Z1 238 = (0, 1000) := by decide +kernel
theorem kn_1000 : Int32.ofNat 1000 = (1000 : Int32) := by decide +kernel
theorem ml_X0_19 : Cond.methodLink RX0 19 arraycopyName ∈ lwG := mG 1213 (by decide +kernel) (by decide +kernel)
theorem fl_X10_78 : Cond.fieldLink RX10 78 (TX10 11).1 (TX10 11).2.1 (TX10 11).2.2.1 ∈ lwG := mG 520 (by decide +kernel) (by decide +kernel)
theorem fi_10_11 : fI 10 11 = true := by decide +kernel
theorem fl_X10_69 : Cond.fieldLink RX10 69 (TX10 8).1 (TX10 8).2.1 (TX10 8).2.2.1 ∈ lwG := mG 517 (by decide +kernel) (by decide +kernel)
theorem fi_10_8 : fI 10 8 = false := by decide +kernel
theorem icl_206 : isClan 206 := (by decide +kernel : 206 ∈ clanL)
theorem ml_X10_322 : Cond.methodLink RX10 322 yX1_become ∈ lwG := mG 1202 (by decide +kernel) (by decide +kernel)
theorem fl_X10_72 : Cond.fieldLink RX10 72 (TX10 9).1 (TX10 9).2.1 (TX10 9).2.2.1 ∈ lwG := mG 518 (by decide +kernel) (by decide +kernel)
theorem fi_10_9 : fI 10 9 = false := by decide +kernel
theorem mw_X6_become : MW yX6_become cX6_become 2 none 1 := ⟨mG 1206 (by decide +kernel) (by decide +kernel), mG 125 (by decide +kernel) (by decide +kernel), by decide +kernel, ⟨by decide +kernel, by decide +kernel⟩, by decide +kernel, by decide⟩
theorem ml_X10_326 : Cond.methodLink RX10 326 yX6_become ∈ lwG := mG 1203 (by decide +kernel) (by decide +kernel)
theorem im_X6_become : Cond.instanceMethod yX6_become ∈ lwG := mG 1204 (by decide +kernel) (by decide +kernel)
theorem se_X6_become : Cond.selects RX6 yX6_become yX6_become ∈ lwG := mG 1205 (by decide +kernel) (by decide +kernel)
theorem fl_X10_75 : Cond.fieldLink RX10 75 (TX10 10).1 (TX10 10).2.1 (TX10 10).2.2.1 ∈ lwG := mG 519 (by decide +kernel) (by decide +kernel)
theorem fi_10_10 : fI 10 10 = false := by decide +kernel
theorem mw_X0_become : MW yX0_become cX0_become 2 none 1 := ⟨mG 1212 (by decide +kernel) (by decide +kernel), mG 127 (by decide +kernel) (by decide +kernel), by decide +kernel, ⟨by decide +kernel, by decide +kernel⟩, by decide +kernel, by decide⟩
theorem ml_X10_329 : Cond.methodLink RX10 329 yX0_become ∈ lwG := mG 1209 (by decide +kernel) (by decide +kernel)
theorem im_X0_become : Cond.instanceMethod yX0_become ∈ lwG := mG 1210 (by decide +kernel) (by decide +kernel)
theorem se_X0_become : Cond.selects RX0 yX0_become yX0_become ∈ lwG := mG 1211 (by decide +kernel) (by decide +kernel)
theorem mw_X2_forget : MW yX2_forget cX2_forget 1 none 0 := ⟨mG 553 (by decide +kernel) (by decide +kernel), mG 128 (by decide +kernel) (by decide +kernel), by decide +kernel, ⟨by decide +kernel, by decide +kernel⟩, by decide +kernel, by decide⟩
theorem ml_X10_86 : Cond.methodLink RX10 86 yX2_forget ∈ lwG := mG 550 (by decide +kernel) (by decide +kernel)
theorem im_X2_forget : Cond.instanceMethod yX2_forget ∈ lwG := mG 551 (by decide +kernel) (by decide +kernel)
theorem se_X2_forget : Cond.selects RX2 yX2_forget yX2_forget ∈ lwG := mG 552 (by decide +kernel) (by decide +kernel)
theorem zl_206 : 206 < Z1.length := by decide +kernel
theorem zk_206 : sK Z1 206 = (3, 20) := by decide +kernel
theorem ml_X7_73 : Cond.methodLink RX7 73 yX1_die ∈ lwG := mG 1155 (by decide +kernel) (by decide +kernel)
theorem mw_X7_heirOf : MW yX7_heirOf cX7_heirOf 3 (some .int) 2 := ⟨mG 1154 (by decide +kernel) (by decide +kernel), mG 129 (by decide +kernel) (by decide +kernel), by decide +kernel, ⟨by decide +kernel, by decide +kernel⟩, by decide +kernel, by decide⟩
theorem ml_X10_299 : Cond.methodLink RX10 299 yX7_heirOf ∈ lwG := mG 1151 (by decide +kernel) (by decide +kernel)
theorem im_X7_heirOf : Cond.instanceMethod yX7_heirOf ∈ lwG := mG 1152 (by decide +kernel) (by decide +kernel)
theorem se_X7_heirOf : Cond.selects RX7 yX7_heirOf yX7_heirOf ∈ lwG := mG 1153 (by decide +kernel) (by decide +kernel)
theorem fl_X10_208 : Cond.fieldLink RX10 208 (TX1 4).1 (TX1 4).2.1 (TX1 4).2.2.1 ∈ lwG := mG 171 (by decide +kernel) (by decide +kernel)
theorem ml_X10_302 : Cond.methodLink RX10 302 yX6_heirByWill ∈ lwG := mG 1156 (by decide +kernel) (by decide +kernel)
theorem ml_X10_93 : Cond.methodLink RX10 93 yX1_isThere ∈ lwG := mG 559 (by decide +kernel) (by decide +kernel)
theorem ml_X10_248 : Cond.methodLink RX10 248 yX1_stepsBetween ∈ lwG := mG 1046 (by decide +kernel) (by decide +kernel)
theorem zr_1_11 : sR Z1 1 11 = some 8 := by decide +kernel
theorem zr_1_16 : sR Z1 1 16 = some 13 := by decide +kernel
theorem fl_X10_124 : Cond.fieldLink RX10 124 (TX1 11).1 (TX1 11).2.1 (TX1 11).2.2.1 ∈ lwG := mG 187 (by decide +kernel) (by decide +kernel)
theorem zl_8 : 8 < Z1.length := by decide +kernel
theorem zk_8 : sK Z1 8 = (0, 12) := by decide +kernel
theorem con_X10_92 : Cond.constant RX10 92 (99999) ∈ lwG := mG 558 (by decide +kernel) (by decide +kernel)
theorem fl_X10_198 : Cond.fieldLink RX10 198 (TX1 16).1 (TX1 16).2.1 (TX1 16).2.2.1 ∈ lwG := mG 199 (by decide +kernel) (by decide +kernel)
theorem zl_13 : 13 < Z1.length := by decide +kernel
theorem zk_13 : sK Z1 13 = (0, 28) := by decide +kernel
theorem mw_X7_pairs : MW yX7_pairs cX7_pairs 5 (some .int) 1 := ⟨mG 1066 (by decide +kernel) (by decide +kernel), mG 129 (by decide +kernel) (by decide +kernel), by decide +kernel, ⟨by decide +kernel, by decide +kernel⟩, by decide +kernel, by decide⟩
theorem ml_X7_59 : Cond.methodLink RX7 59 yX7_pairs ∈ lwG := mG 1063 (by decide +kernel) (by decide +kernel)
theorem im_X7_pairs : Cond.instanceMethod yX7_pairs ∈ lwG := mG 1065 (by decide +kernel) (by decide +kernel)
theorem se_X7_pairs : Cond.selects RX7 yX7_pairs yX7_pairs ∈ lwG := mG 23 (by decide +kernel) (by decide +kernel)
theorem mw_X0_changesOf : MW yX0_changesOf cX0_changesOf 4 (some .int) 1 := ⟨mG 1058 (by decide +kernel) (by decide +kernel), mG 127 (by decide +kernel) (by decide +kernel), by decide +kernel, ⟨by decide +kernel, by decide +kernel⟩, by decide +kernel, by decide⟩
theorem ml_X10_255 : Cond.methodLink RX10 255 yX0_changesOf ∈ lwG := mG 1055 (by decide +kernel) (by decide +kernel)
theorem im_X0_changesOf : Cond.instanceMethod yX0_changesOf ∈ lwG := mG 1056 (by decide +kernel) (by decide +kernel)
theorem se_X0_changesOf : Cond.selects RX0 yX0_changesOf yX0_changesOf ∈ lwG := mG 1057 (by decide +kernel) (by decide +kernel)
theorem mw_X7_valueOf : MW yX7_valueOf cX7_valueOf 2 (some .int) 1 := ⟨mG 1062 (by decide +kernel) (by decide +kernel), mG 129 (by decide +kernel) (by decide +kernel), by decide +kernel, ⟨by decide +kernel, by decide +kernel⟩, by decide +kernel, by decide⟩
theorem ml_X10_258 : Cond.methodLink RX10 258 yX7_valueOf ∈ lwG := mG 1059 (by decide +kernel) (by decide +kernel)
theorem im_X7_valueOf : Cond.instanceMethod yX7_valueOf ∈ lwG := mG 1060 (by decide +kernel) (by decide +kernel)
theorem se_X7_valueOf : Cond.selects RX7 yX7_valueOf yX7_valueOf ∈ lwG := mG 1061 (by decide +kernel) (by decide +kernel)
theorem fl_X10_89 : Cond.fieldLink RX10 89 (TX1 3).1 (TX1 3).2.1 (TX1 3).2.2.1 ∈ lwG := mG 166 (by decide +kernel) (by decide +kernel)
theorem fl_X10_101 : Cond.fieldLink RX10 101 (TX1 2).1 (TX1 2).2.1 (TX1 2).2.2.1 ∈ lwG := mG 164 (by decide +kernel) (by decide +kernel)
theorem fl_X10_82 : Cond.fieldLink RX10 82 (TX1 0).1 (TX1 0).2.1 (TX1 0).2.2.1 ∈ lwG := mG 158 (by decide +kernel) (by decide +kernel)
theorem fl_X10_147 : Cond.fieldLink RX10 147 (TX6 0).1 (TX6 0).2.1 (TX6 0).2.2.1 ∈ lwG := mG 292 (by decide +kernel) (by decide +kernel)
theorem fl_X10_282 : Cond.fieldLink RX10 282 (TX3 2).1 (TX3 2).2.1 (TX3 2).2.2.1 ∈ lwG := mG 265 (by decide +kernel) (by decide +kernel)
theorem fl_X10_285 : Cond.fieldLink RX10 285 (TX2 3).1 (TX2 3).2.1 (TX2 3).2.2.1 ∈ lwG := mG 361 (by decide +kernel) (by decide +kernel)
theorem ml_X10_239 : Cond.methodLink RX10 239 yX1_ownedBy ∈ lwG := mG 1040 (by decide +kernel) (by decide +kernel)
theorem mw_X1_loans : MW yX1_loans cX1_loans 3 (some .int) 0 := ⟨mG 1104 (by decide +kernel) (by decide +kernel), mG 124 (by decide +kernel) (by decide +kernel), by decide +kernel, ⟨by decide +kernel, by decide +kernel⟩, by decide +kernel, by decide⟩
theorem ml_X10_288 : Cond.methodLink RX10 288 yX1_loans ∈ lwG := mG 1101 (by decide +kernel) (by decide +kernel)
theorem im_X1_loans : Cond.instanceMethod yX1_loans ∈ lwG := mG 1102 (by decide +kernel) (by decide +kernel)
theorem se_X1_loans : Cond.selects RX1 yX1_loans yX1_loans ∈ lwG := mG 1103 (by decide +kernel) (by decide +kernel)
theorem zr_1_12 : sR Z1 1 12 = some 9 := by decide +kernel
theorem zr_1_9 : sR Z1 1 9 = some 6 := by decide +kernel
theorem zr_1_8 : sR Z1 1 8 = some 5 := by decide +kernel
theorem zr_1_7 : sR Z1 1 7 = some 4 := by decide +kernel
theorem zr_1_6 : sR Z1 1 6 = some 3 := by decide +kernel
theorem zr_1_5 : sR Z1 1 5 = some 2 := by decide +kernel
theorem fl_X10_230 : Cond.fieldLink RX10 230 (TX1 5).1 (TX1 5).2.1 (TX1 5).2.2.1 ∈ lwG := mG 173 (by decide +kernel) (by decide +kernel)
theorem zl_2 : 2 < Z1.length := by decide +kernel
theorem zk_2 : sK Z1 2 = (0, 12) := by decide +kernel
theorem fl_X10_233 : Cond.fieldLink RX10 233 (TX1 6).1 (TX1 6).2.1 (TX1 6).2.2.1 ∈ lwG := mG 175 (by decide +kernel) (by decide +kernel)
theorem zl_3 : 3 < Z1.length := by decide +kernel
theorem zk_3 : sK Z1 3 = (0, 12) := by decide +kernel
theorem fl_X10_236 : Cond.fieldLink RX10 236 (TX1 7).1 (TX1 7).2.1 (TX1 7).2.2.1 ∈ lwG := mG 178 (by decide +kernel) (by decide +kernel)
theorem zl_4 : 4 < Z1.length := by decide +kernel
theorem zk_4 : sK Z1 4 = (0, 12) := by decide +kernel
theorem fl_X10_114 : Cond.fieldLink RX10 114 (TX1 8).1 (TX1 8).2.1 (TX1 8).2.2.1 ∈ lwG := mG 180 (by decide +kernel) (by decide +kernel)
theorem zl_5 : 5 < Z1.length := by decide +kernel
theorem zk_5 : sK Z1 5 = (0, 12) := by decide +kernel
theorem fl_X10_118 : Cond.fieldLink RX10 118 (TX1 9).1 (TX1 9).2.1 (TX1 9).2.2.1 ∈ lwG := mG 182 (by decide +kernel) (by decide +kernel)
theorem zl_6 : 6 < Z1.length := by decide +kernel
theorem zk_6 : sK Z1 6 = (0, 12) := by decide +kernel
theorem fl_X10_183 : Cond.fieldLink RX10 183 (TX1 12).1 (TX1 12).2.1 (TX1 12).2.2.1 ∈ lwG := mG 191 (by decide +kernel) (by decide +kernel)
theorem zl_9 : 9 < Z1.length := by decide +kernel
theorem zk_9 : sK Z1 9 = (0, 12) := by decide +kernel
theorem ml_X10_242 : Cond.methodLink RX10 242 yX1_writableBy ∈ lwG := mG 1041 (by decide +kernel) (by decide +kernel)
theorem fl_X10_245 : Cond.fieldLink RX10 245 (TX6 1).1 (TX6 1).2.1 (TX6 1).2.2.1 ∈ lwG := mG 296 (by decide +kernel) (by decide +kernel)
theorem mw_X1_unlink : MW yX1_unlink cX1_unlink 3 none 2 := ⟨mG 935 (by decide +kernel) (by decide +kernel), mG 124 (by decide +kernel) (by decide +kernel), by decide +kernel, ⟨by decide +kernel, by decide +kernel⟩, by decide +kernel, by decide⟩
theorem ml_X1_94 : Cond.methodLink RX1 94 yX1_unlink ∈ lwG := mG 932 (by decide +kernel) (by decide +kernel)
theorem im_X1_unlink : Cond.instanceMethod yX1_unlink ∈ lwG := mG 933 (by decide +kernel) (by decide +kernel)
theorem se_X1_unlink : Cond.selects RX1 yX1_unlink yX1_unlink ∈ lwG := mG 934 (by decide +kernel) (by decide +kernel)
theorem mw_X1_separate : MW yX1_separate cX1_separate 3 none 2 := ⟨mG 931 (by decide +kernel) (by decide +kernel), mG 124 (by decide +kernel) (by decide +kernel), by decide +kernel, ⟨by decide +kernel, by decide +kernel⟩, by decide +kernel, by decide⟩
theorem ml_X10_186 : Cond.methodLink RX10 186 yX1_separate ∈ lwG := mG 928 (by decide +kernel) (by decide +kernel)
theorem im_X1_separate : Cond.instanceMethod yX1_separate ∈ lwG := mG 929 (by decide +kernel) (by decide +kernel)
theorem se_X1_separate : Cond.selects RX1 yX1_separate yX1_separate ∈ lwG := mG 930 (by decide +kernel) (by decide +kernel)
theorem mw_X1_link : MW yX1_link cX1_link 3 none 2 := ⟨mG 570 (by decide +kernel) (by decide +kernel), mG 124 (by decide +kernel) (by decide +kernel), by decide +kernel, ⟨by decide +kernel, by decide +kernel⟩, by decide +kernel, by decide⟩
theorem ml_X1_83 : Cond.methodLink RX1 83 yX1_link ∈ lwG := mG 567 (by decide +kernel) (by decide +kernel)
theorem im_X1_link : Cond.instanceMethod yX1_link ∈ lwG := mG 568 (by decide +kernel) (by decide +kernel)
theorem se_X1_link : Cond.selects RX1 yX1_link yX1_link ∈ lwG := mG 569 (by decide +kernel) (by decide +kernel)
theorem mw_X1_addPerson : MW yX1_addPerson cX1_addPerson 5 (some .int) 3 := ⟨mG 566 (by decide +kernel) (by decide +kernel), mG 124 (by decide +kernel) (by decide +kernel), by decide +kernel, ⟨by decide +kernel, by decide +kernel⟩, by decide +kernel, by decide⟩
theorem ml_X10_97 : Cond.methodLink RX10 97 yX1_addPerson ∈ lwG := mG 563 (by decide +kernel) (by decide +kernel)
theorem im_X1_addPerson : Cond.instanceMethod yX1_addPerson ∈ lwG := mG 564 (by decide +kernel) (by decide +kernel)
theorem se_X1_addPerson : Cond.selects RX1 yX1_addPerson yX1_addPerson ∈ lwG := mG 565 (by decide +kernel) (by decide +kernel)
theorem mw_X10_setOfPerson : MW yX10_setOfPerson cX10_setOfPerson 4 (some .boolean) 3 := ⟨mG 583 (by decide +kernel) (by decide +kernel), mG 123 (by decide +kernel) (by decide +kernel), by decide +kernel, ⟨by decide +kernel, by decide +kernel⟩, by decide +kernel, by decide⟩
theorem ml_X10_107 : Cond.methodLink RX10 107 yX10_setOfPerson ∈ lwG := mG 580 (by decide +kernel) (by decide +kernel)
theorem im_X10_setOfPerson : Cond.instanceMethod yX10_setOfPerson ∈ lwG := mG 582 (by decide +kernel) (by decide +kernel)
theorem se_X10_setOfPerson : Cond.selects RX10 yX10_setOfPerson yX10_setOfPerson ∈ lwG := mG 0 (by decide +kernel) (by decide +kernel)
theorem mw_X7_writableTogether : MW yX7_writableTogether cX7_writableTogether 2 (some .int) 1 := ⟨mG 969 (by decide +kernel) (by decide +kernel), mG 129 (by decide +kernel) (by decide +kernel), by decide +kernel, ⟨by decide +kernel, by decide +kernel⟩, by decide +kernel, by decide⟩
theorem ml_X10_220 : Cond.methodLink RX10 220 yX7_writableTogether ∈ lwG := mG 966 (by decide +kernel) (by decide +kernel)
theorem im_X7_writableTogether : Cond.instanceMethod yX7_writableTogether ∈ lwG := mG 967 (by decide +kernel) (by decide +kernel)
theorem se_X7_writableTogether : Cond.selects RX7 yX7_writableTogether yX7_writableTogether ∈ lwG := mG 968 (by decide +kernel) (by decide +kernel)
theorem mw_X7_silencedBy : MW yX7_silencedBy cX7_silencedBy 3 (some .int) 1 := ⟨mG 1169 (by decide +kernel) (by decide +kernel), mG 129 (by decide +kernel) (by decide +kernel), by decide +kernel, ⟨by decide +kernel, by decide +kernel⟩, by decide +kernel, by decide⟩
theorem ml_X10_309 : Cond.methodLink RX10 309 yX7_silencedBy ∈ lwG := mG 1166 (by decide +kernel) (by decide +kernel)
theorem im_X7_silencedBy : Cond.instanceMethod yX7_silencedBy ∈ lwG := mG 1167 (by decide +kernel) (by decide +kernel)
theorem se_X7_silencedBy : Cond.selects RX7 yX7_silencedBy yX7_silencedBy ∈ lwG := mG 1168 (by decide +kernel) (by decide +kernel)
theorem zr_0_6 : sR Z1 0 6 = some 186 := by decide +kernel
theorem zr_0_7 : sR Z1 0 7 = some 198 := by decide +kernel
theorem fl_X5_19 : Cond.fieldLink RX5 19 (TX5 2).1 (TX5 2).2.1 (TX5 2).2.2.1 ∈ lwG := mG 410 (by decide +kernel) (by decide +kernel)
theorem fl_X5_22 : Cond.fieldLink RX5 22 (TX5 3).1 (TX5 3).2.1 (TX5 3).2.2.1 ∈ lwG := mG 413 (by decide +kernel) (by decide +kernel)
theorem zl_186 : 186 < Z1.length := by decide +kernel
theorem zk_186 : sK Z1 186 = (6, 2) := by decide +kernel
theorem zr_186_0 : sR Z1 186 0 = some 194 := by decide +kernel
theorem zr_186_1 : sR Z1 186 1 = some 187 := by decide +kernel
theorem ztl_0 : ∀ {c : Nat}, isTok c → c < Z1.length := fun {c} h => (by decide +kernel : ∀ c ∈ tokL, c < Z1.length) c h
theorem ztk_0 : ∀ {c : Nat}, isTok c → sK Z1 (c) = (10, 8) := fun {c} h => (by decide +kernel : ∀ c ∈ tokL, sK Z1 (c) = (10, 8)) c h
theorem ztr_0 : ∀ {c : Nat}, isTok c → sR Z1 c 0 = some 184 := fun {c} h => (by decide +kernel : ∀ c ∈ tokL, sR Z1 c 0 = some 184) c h
theorem kb_32 : (Int8.ofInt (32)).toInt32 = (32 : Int32) := by decide +kernel
theorem kb_10 : (Int8.ofInt (10)).toInt32 = (10 : Int32) := by decide +kernel
theorem ztr_2 : ∀ {c : Nat}, isTok c → sR Z1 c 2 = some (1048576 + (tw c + 1)) := fun {c} h => (by decide +kernel : ∀ c ∈ tokL, sR Z1 c 2 = some (1048576 + (tw c + 1))) c h
theorem twl_2 : ∀ {c : Nat}, isTok c → (tw c + 1) < 4 := fun {c} h => (by decide +kernel : ∀ c ∈ tokL, (tw c + 1) < 4) c h
theorem kb_65 : (Int8.ofInt (65)).toInt32 = (65 : Int32) := by decide +kernel
theorem kb_90 : (Int8.ofInt (90)).toInt32 = (90 : Int32) := by decide +kernel
theorem kb_97 : (Int8.ofInt (97)).toInt32 = (97 : Int32) := by decide +kernel
theorem kb_122 : (Int8.ofInt (122)).toInt32 = (122 : Int32) := by decide +kernel
theorem ztr_1 : ∀ {c : Nat}, isTok c → sR Z1 c 1 = some (1048576 + tw c) := fun {c} h => (by decide +kernel : ∀ c ∈ tokL, sR Z1 c 1 = some (1048576 + tw c)) c h
theorem twl_1 : ∀ {c : Nat}, isTok c → tw c < 4 := fun {c} h => (by decide +kernel : ∀ c ∈ tokL, tw c < 4) c h
theorem fl_J0_38 : Cond.fieldLink RJ0 38 "java/lang/String" "COMPACT_STRINGS" "Z" ∈ lwG := mG 657 (by decide +kernel) (by decide +kernel)
theorem fl_J0_15 : Cond.fieldLink RJ0 15 "java/lang/String" "coder" "B" ∈ lwG := mG 1892 (by decide +kernel) (by decide +kernel)
theorem fl_J0_9 : Cond.fieldLink RJ0 9 "java/lang/String" "value" "[B" ∈ lwG := mG 1891 (by decide +kernel) (by decide +kernel)
theorem mw_J0_coder_7d493 : MW yJ0_coder_7d493 cJ0_coder_7d493 1 (some .byte) 0 := ⟨mG 656 (by decide +kernel) (by decide +kernel), mG 135 (by decide +kernel) (by decide +kernel), by decide +kernel, ⟨by decide +kernel, by decide +kernel⟩, by decide +kernel, by decide⟩
theorem ml_J0_335 : Cond.methodLink RJ0 335 yJ0_coder_7d493 ∈ lwG := mG 653 (by decide +kernel) (by decide +kernel)
theorem im_J0_coder_7d493 : Cond.instanceMethod yJ0_coder_7d493 ∈ lwG := mG 654 (by decide +kernel) (by decide +kernel)
theorem se_J0_coder_7d493 : Cond.selects RJ0 yJ0_coder_7d493 yJ0_coder_7d493 ∈ lwG := mG 655 (by decide +kernel) (by decide +kernel)
theorem fl_J0_1053 : Cond.fieldLink RJ0 1053 "jdk/internal/util/Preconditions" "SIOOBE_FORMATTER" "Ljava/util/function/BiFunction;" ∈ lwG := mG 673 (by decide +kernel) (by decide +kernel)
theorem ml_J0_1059 : Cond.methodLink RJ0 1059 yJ3_checkIndex_8e157 ∈ lwG := mG 675 (by decide +kernel) (by decide +kernel)
theorem mw_J3_checkIndex_8e157 : MW yJ3_checkIndex_8e157 cJ3_checkIndex_8e157 3 (some .int) 3 := ⟨mG 677 (by decide +kernel) (by decide +kernel), mG 137 (by decide +kernel) (by decide +kernel), by decide +kernel, ⟨by decide +kernel, by decide +kernel⟩, by decide +kernel, by decide⟩
theorem st_J3_checkIndex_8e157 : Cond.static yJ3_checkIndex_8e157 ∈ lwG := mG 676 (by decide +kernel) (by decide +kernel)
theorem ml_J1_9 : Cond.methodLink RJ1 9 yJ0_checkIndex_df160 ∈ lwG := mG 670 (by decide +kernel) (by decide +kernel)
theorem mw_J0_checkIndex_df160 : MW yJ0_checkIndex_df160 cJ0_checkIndex_df160 2 none 2 := ⟨mG 672 (by decide +kernel) (by decide +kernel), mG 135 (by decide +kernel) (by decide +kernel), by decide +kernel, ⟨by decide +kernel, by decide +kernel⟩, by decide +kernel, by decide⟩
theorem st_J0_checkIndex_df160 : Cond.static yJ0_checkIndex_df160 ∈ lwG := mG 671 (by decide +kernel) (by decide +kernel)
theorem mw_J0_isLatin1_aae02 : MW yJ0_isLatin1_aae02 cJ0_isLatin1_aae02 1 (some .boolean) 0 := ⟨mG 666 (by decide +kernel) (by decide +kernel), mG 135 (by decide +kernel) (by decide +kernel), by decide +kernel, ⟨by decide +kernel, by decide +kernel⟩, by decide +kernel, by decide⟩
theorem ml_J0_492 : Cond.methodLink RJ0 492 yJ0_isLatin1_aae02 ∈ lwG := mG 663 (by decide +kernel) (by decide +kernel)
theorem im_J0_isLatin1_aae02 : Cond.instanceMethod yJ0_isLatin1_aae02 ∈ lwG := mG 664 (by decide +kernel) (by decide +kernel)
theorem se_J0_isLatin1_aae02 : Cond.selects RJ0 yJ0_isLatin1_aae02 yJ0_isLatin1_aae02 ∈ lwG := mG 665 (by decide +kernel) (by decide +kernel)
theorem ml_J0_495 : Cond.methodLink RJ0 495 yJ1_charAt_3b067 ∈ lwG := mG 667 (by decide +kernel) (by decide +kernel)
theorem mw_J1_charAt_3b067 : MW yJ1_charAt_3b067 cJ1_charAt_3b067 2 (some .char) 2 := ⟨mG 669 (by decide +kernel) (by decide +kernel), mG 136 (by decide +kernel) (by decide +kernel), by decide +kernel, ⟨by decide +kernel, by decide +kernel⟩, by decide +kernel, by decide⟩
theorem st_J1_charAt_3b067 : Cond.static yJ1_charAt_3b067 ∈ lwG := mG 668 (by decide +kernel) (by decide +kernel)
theorem fl_X8_32 : Cond.fieldLink RX8 32 (TX8 1).1 (TX8 1).2.1 (TX8 1).2.2.1 ∈ lwG := mG 442 (by decide +kernel) (by decide +kernel)
theorem fi_8_1 : fI 8 1 = false := by decide +kernel
theorem mw_J0_charAt_5068e : MW yJ0_charAt_5068e cJ0_charAt_5068e 2 (some .char) 1 := ⟨mG 662 (by decide +kernel) (by decide +kernel), mG 135 (by decide +kernel) (by decide +kernel), by decide +kernel, ⟨by decide +kernel, by decide +kernel⟩, by decide +kernel, by decide⟩
theorem ml_X8_86 : Cond.methodLink RX8 86 yJ0_charAt_5068e ∈ lwG := mG 659 (by decide +kernel) (by decide +kernel)
theorem im_J0_charAt_5068e : Cond.instanceMethod yJ0_charAt_5068e ∈ lwG := mG 660 (by decide +kernel) (by decide +kernel)
theorem se_J0_charAt_5068e : Cond.selects RJ0 yJ0_charAt_5068e yJ0_charAt_5068e ∈ lwG := mG 661 (by decide +kernel) (by decide +kernel)
theorem fl_X8_28 : Cond.fieldLink RX8 28 (TX8 0).1 (TX8 0).2.1 (TX8 0).2.2.1 ∈ lwG := mG 441 (by decide +kernel) (by decide +kernel)
theorem fi_8_0 : fI 8 0 = false := by decide +kernel
theorem fl_X8_44 : Cond.fieldLink RX8 44 (TX5 0).1 (TX5 0).2.1 (TX5 0).2.2.1 ∈ lwG := mG 402 (by decide +kernel) (by decide +kernel)
theorem mw_X8_isSame : MW yX8_isSame cX8_isSame 5 (some .boolean) 3 := ⟨mG 700 (by decide +kernel) (by decide +kernel), mG 132 (by decide +kernel) (by decide +kernel), by decide +kernel, ⟨by decide +kernel, by decide +kernel⟩, by decide +kernel, by decide⟩
theorem ml_X8_90 : Cond.methodLink RX8 90 yX8_isSame ∈ lwG := mG 697 (by decide +kernel) (by decide +kernel)
theorem im_X8_isSame : Cond.instanceMethod yX8_isSame ∈ lwG := mG 699 (by decide +kernel) (by decide +kernel)
theorem se_X8_isSame : Cond.selects RX8 yX8_isSame yX8_isSame ∈ lwG := mG 4 (by decide +kernel) (by decide +kernel)
theorem mw_J0_length_8abf5 : MW yJ0_length_8abf5 cJ0_length_8abf5 1 (some .int) 0 := ⟨mG 652 (by decide +kernel) (by decide +kernel), mG 135 (by decide +kernel) (by decide +kernel), by decide +kernel, ⟨by decide +kernel, by decide +kernel⟩, by decide +kernel, by decide⟩
theorem ml_X8_83 : Cond.methodLink RX8 83 yJ0_length_8abf5 ∈ lwG := mG 649 (by decide +kernel) (by decide +kernel)
theorem im_J0_length_8abf5 : Cond.instanceMethod yJ0_length_8abf5 ∈ lwG := mG 650 (by decide +kernel) (by decide +kernel)
theorem se_J0_length_8abf5 : Cond.selects RJ0 yJ0_length_8abf5 yJ0_length_8abf5 ∈ lwG := mG 651 (by decide +kernel) (by decide +kernel)
theorem ztr_3 : ∀ {c : Nat}, isTok c → sR Z1 c 3 = some (c + 1) := fun {c} h => (by decide +kernel : ∀ c ∈ tokL, sR Z1 c 3 = some (c + 1)) c h
theorem ztr_4 : ∀ {c : Nat}, isTok c → sR Z1 c 4 = some (c + 2) := fun {c} h => (by decide +kernel : ∀ c ∈ tokL, sR Z1 c 4 = some (c + 2)) c h
theorem ztr_5 : ∀ {c : Nat}, isTok c → sR Z1 c 5 = some (c + 3) := fun {c} h => (by decide +kernel : ∀ c ∈ tokL, sR Z1 c 5 = some (c + 3)) c h
theorem fl_X8_21 : Cond.fieldLink RX8 21 (TX8 6).1 (TX8 6).2.1 (TX8 6).2.2.1 ∈ lwG := mG 447 (by decide +kernel) (by decide +kernel)
theorem fi_8_6 : fI 8 6 = true := by decide +kernel
theorem fl_X8_9 : Cond.fieldLink RX8 9 (TX8 3).1 (TX8 3).2.1 (TX8 3).2.2.1 ∈ lwG := mG 444 (by decide +kernel) (by decide +kernel)
theorem fi_8_3 : fI 8 3 = false := by decide +kernel
theorem ztl_1 : ∀ {c : Nat}, isTok c → c + 1 < Z1.length := fun {c} h => (by decide +kernel : ∀ c ∈ tokL, c + 1 < Z1.length) c h
theorem ztk_1 : ∀ {c : Nat}, isTok c → sK Z1 (c + 1) = (0, 401) := fun {c} h => (by decide +kernel : ∀ c ∈ tokL, sK Z1 (c + 1) = (0, 401)) c h
theorem kn_401 : Int32.ofNat 401 = (401 : Int32) := by decide +kernel
theorem fl_X8_15 : Cond.fieldLink RX8 15 (TX8 4).1 (TX8 4).2.1 (TX8 4).2.2.1 ∈ lwG := mG 445 (by decide +kernel) (by decide +kernel)
theorem fi_8_4 : fI 8 4 = false := by decide +kernel
theorem ztl_2 : ∀ {c : Nat}, isTok c → c + 2 < Z1.length := fun {c} h => (by decide +kernel : ∀ c ∈ tokL, c + 2 < Z1.length) c h
theorem ztk_2 : ∀ {c : Nat}, isTok c → sK Z1 (c + 2) = (0, 401) := fun {c} h => (by decide +kernel : ∀ c ∈ tokL, sK Z1 (c + 2) = (0, 401)) c h
theorem fl_X8_18 : Cond.fieldLink RX8 18 (TX8 5).1 (TX8 5).2.1 (TX8 5).2.2.1 ∈ lwG := mG 446 (by decide +kernel) (by decide +kernel)
theorem fi_8_5 : fI 8 5 = false := by decide +kernel
theorem ztl_3 : ∀ {c : Nat}, isTok c → c + 3 < Z1.length := fun {c} h => (by decide +kernel : ∀ c ∈ tokL, c + 3 < Z1.length) c h
theorem ztk_3 : ∀ {c : Nat}, isTok c → sK Z1 (c + 3) = (0, 401) := fun {c} h => (by decide +kernel : ∀ c ∈ tokL, sK Z1 (c + 3) = (0, 401)) c h
theorem mw_X8_keep : MW yX8_keep cX8_keep 4 none 3 := ⟨mG 704 (by decide +kernel) (by decide +kernel), mG 132 (by decide +kernel) (by decide +kernel), by decide +kernel, ⟨by decide +kernel, by decide +kernel⟩, by decide +kernel, by decide⟩
theorem ml_X8_55 : Cond.methodLink RX8 55 yX8_keep ∈ lwG := mG 701 (by decide +kernel) (by decide +kernel)
theorem im_X8_keep : Cond.instanceMethod yX8_keep ∈ lwG := mG 703 (by decide +kernel) (by decide +kernel)
theorem se_X8_keep : Cond.selects RX8 yX8_keep yX8_keep ∈ lwG := mG 5 (by decide +kernel) (by decide +kernel)
theorem mw_X8_wordAt : MW yX8_wordAt cX8_wordAt 6 (some .int) 2 := ⟨mG 648 (by decide +kernel) (by decide +kernel), mG 132 (by decide +kernel) (by decide +kernel), by decide +kernel, ⟨by decide +kernel, by decide +kernel⟩, by decide +kernel, by decide⟩
theorem ml_X8_79 : Cond.methodLink RX8 79 yX8_wordAt ∈ lwG := mG 645 (by decide +kernel) (by decide +kernel)
theorem im_X8_wordAt : Cond.instanceMethod yX8_wordAt ∈ lwG := mG 647 (by decide +kernel) (by decide +kernel)
theorem se_X8_wordAt : Cond.selects RX8 yX8_wordAt yX8_wordAt ∈ lwG := mG 3 (by decide +kernel) (by decide +kernel)
theorem fl_X8_39 : Cond.fieldLink RX8 39 (TX5 1).1 (TX5 1).2.1 (TX5 1).2.2.1 ∈ lwG := mG 406 (by decide +kernel) (by decide +kernel)
theorem ml_X8_59 : Cond.methodLink RX8 59 yX8_isOfWord ∈ lwG := mG 638 (by decide +kernel) (by decide +kernel)
theorem mw_X8_isOfWord : MW yX8_isOfWord cX8_isOfWord 1 (some .boolean) 1 := ⟨mG 640 (by decide +kernel) (by decide +kernel), mG 132 (by decide +kernel) (by decide +kernel), by decide +kernel, ⟨by decide +kernel, by decide +kernel⟩, by decide +kernel, by decide⟩
theorem st_X8_isOfWord : Cond.static yX8_isOfWord ∈ lwG := mG 639 (by decide +kernel) (by decide +kernel)
theorem kb_48 : (Int8.ofInt (48)).toInt32 = (48 : Int32) := by decide +kernel
theorem kb_57 : (Int8.ofInt (57)).toInt32 = (57 : Int32) := by decide +kernel
theorem ml_X8_65 : Cond.methodLink RX8 65 yX8_isDigit ∈ lwG := mG 705 (by decide +kernel) (by decide +kernel)
theorem mw_X8_isDigit : MW yX8_isDigit cX8_isDigit 1 (some .boolean) 1 := ⟨mG 707 (by decide +kernel) (by decide +kernel), mG 132 (by decide +kernel) (by decide +kernel), by decide +kernel, ⟨by decide +kernel, by decide +kernel⟩, by decide +kernel, by decide⟩
theorem st_X8_isDigit : Cond.static yX8_isDigit ∈ lwG := mG 706 (by decide +kernel) (by decide +kernel)
theorem ml_J1_88 : Cond.methodLink RJ1 88 yJ1_canEncode_9a6ad ∈ lwG := mG 724 (by decide +kernel) (by decide +kernel)
theorem mw_J1_canEncode_9a6ad : MW yJ1_canEncode_9a6ad cJ1_canEncode_9a6ad 1 (some .boolean) 1 := ⟨mG 726 (by decide +kernel) (by decide +kernel), mG 136 (by decide +kernel) (by decide +kernel), by decide +kernel, ⟨by decide +kernel, by decide +kernel⟩, by decide +kernel, by decide⟩
theorem st_J1_canEncode_9a6ad : Cond.static yJ1_canEncode_9a6ad ∈ lwG := mG 725 (by decide +kernel) (by decide +kernel)
theorem ml_J1_92 : Cond.methodLink RJ1 92 Lib.Math.max.name ∈ lwG := mG 727 (by decide +kernel) (by decide +kernel)
theorem ms_max : Cond.static Lib.Math.max.name ∈ lwG := mG 728 (by decide +kernel) (by decide +kernel)
theorem mi_m : Cond.initialized "java/lang/Math" ∈ lwG := mG 139 (by decide +kernel) (by decide +kernel)
theorem mc_max : Cond.code Lib.Math.max.name Lib.Math.max.code 2 (some .int) ∈ lwG := mG 729 (by decide +kernel) (by decide +kernel)
theorem ml_J1_38 : Cond.methodLink RJ1 38 Lib.Math.min.name ∈ lwG := mG 730 (by decide +kernel) (by decide +kernel)
theorem ms_min : Cond.static Lib.Math.min.name ∈ lwG := mG 731 (by decide +kernel) (by decide +kernel)
theorem mc_min : Cond.code Lib.Math.min.name Lib.Math.min.code 2 (some .int) ∈ lwG := mG 732 (by decide +kernel) (by decide +kernel)
theorem ml_J1_95 : Cond.methodLink RJ1 95 yJ1_indexOfChar_4cfef ∈ lwG := mG 733 (by decide +kernel) (by decide +kernel)
theorem mw_J1_indexOfChar_4cfef : MW yJ1_indexOfChar_4cfef cJ1_indexOfChar_4cfef 6 (some .int) 4 := ⟨mG 735 (by decide +kernel) (by decide +kernel), mG 136 (by decide +kernel) (by decide +kernel), by decide +kernel, ⟨by decide +kernel, by decide +kernel⟩, by decide +kernel, by decide⟩
theorem st_J1_indexOfChar_4cfef : Cond.static yJ1_indexOfChar_4cfef ∈ lwG := mG 734 (by decide +kernel) (by decide +kernel)
theorem ml_J0_505 : Cond.methodLink RJ0 505 yJ0_length_8abf5 ∈ lwG := mG 720 (by decide +kernel) (by decide +kernel)
theorem ml_J0_637 : Cond.methodLink RJ0 637 yJ1_indexOf_4cfef ∈ lwG := mG 721 (by decide +kernel) (by decide +kernel)
theorem mw_J1_indexOf_4cfef : MW yJ1_indexOf_4cfef cJ1_indexOf_4cfef 4 (some .int) 4 := ⟨mG 723 (by decide +kernel) (by decide +kernel), mG 136 (by decide +kernel) (by decide +kernel), by decide +kernel, ⟨by decide +kernel, by decide +kernel⟩, by decide +kernel, by decide⟩
theorem st_J1_indexOf_4cfef : Cond.static yJ1_indexOf_4cfef ∈ lwG := mG 722 (by decide +kernel) (by decide +kernel)
theorem mw_J0_indexOf_7cf53 : MW yJ0_indexOf_7cf53 cJ0_indexOf_7cf53 3 (some .int) 2 := ⟨mG 719 (by decide +kernel) (by decide +kernel), mG 135 (by decide +kernel) (by decide +kernel), by decide +kernel, ⟨by decide +kernel, by decide +kernel⟩, by decide +kernel, by decide⟩
theorem ml_J0_633 : Cond.methodLink RJ0 633 yJ0_indexOf_7cf53 ∈ lwG := mG 716 (by decide +kernel) (by decide +kernel)
theorem im_J0_indexOf_7cf53 : Cond.instanceMethod yJ0_indexOf_7cf53 ∈ lwG := mG 717 (by decide +kernel) (by decide +kernel)
theorem se_J0_indexOf_7cf53 : Cond.selects RJ0 yJ0_indexOf_7cf53 yJ0_indexOf_7cf53 ∈ lwG := mG 718 (by decide +kernel) (by decide +kernel)
theorem kb_34 : (Int8.ofInt (34)).toInt32 = (34 : Int32) := by decide +kernel
theorem fl_X8_36 : Cond.fieldLink RX8 36 (TX8 2).1 (TX8 2).2.1 (TX8 2).2.2.1 ∈ lwG := mG 443 (by decide +kernel) (by decide +kernel)
theorem fi_8_2 : fI 8 2 = false := by decide +kernel
theorem mw_J0_indexOf_0f7a4 : MW yJ0_indexOf_0f7a4 cJ0_indexOf_0f7a4 2 (some .int) 1 := ⟨mG 715 (by decide +kernel) (by decide +kernel), mG 135 (by decide +kernel) (by decide +kernel), by decide +kernel, ⟨by decide +kernel, by decide +kernel⟩, by decide +kernel, by decide⟩
theorem ml_X8_71 : Cond.methodLink RX8 71 yJ0_indexOf_0f7a4 ∈ lwG := mG 712 (by decide +kernel) (by decide +kernel)
theorem im_J0_indexOf_0f7a4 : Cond.instanceMethod yJ0_indexOf_0f7a4 ∈ lwG := mG 713 (by decide +kernel) (by decide +kernel)
theorem se_J0_indexOf_0f7a4 : Cond.selects RJ0 yJ0_indexOf_0f7a4 yJ0_indexOf_0f7a4 ∈ lwG := mG 714 (by decide +kernel) (by decide +kernel)
theorem mw_X8_cutRow : MW yX8_cutRow cX8_cutRow 3 (some .int) 1 := ⟨mG 774 (by decide +kernel) (by decide +kernel), mG 132 (by decide +kernel) (by decide +kernel), by decide +kernel, ⟨by decide +kernel, by decide +kernel⟩, by decide +kernel, by decide⟩
theorem ml_X8_76 : Cond.methodLink RX8 76 yX8_cutRow ∈ lwG := mG 771 (by decide +kernel) (by decide +kernel)
theorem im_X8_cutRow : Cond.instanceMethod yX8_cutRow ∈ lwG := mG 773 (by decide +kernel) (by decide +kernel)
theorem se_X8_cutRow : Cond.selects RX8 yX8_cutRow yX8_cutRow ∈ lwG := mG 7 (by decide +kernel) (by decide +kernel)
theorem mw_X8_cutNumber : MW yX8_cutNumber cX8_cutNumber 4 (some .int) 1 := ⟨mG 711 (by decide +kernel) (by decide +kernel), mG 132 (by decide +kernel) (by decide +kernel), by decide +kernel, ⟨by decide +kernel, by decide +kernel⟩, by decide +kernel, by decide⟩
theorem ml_X8_68 : Cond.methodLink RX8 68 yX8_cutNumber ∈ lwG := mG 708 (by decide +kernel) (by decide +kernel)
theorem im_X8_cutNumber : Cond.instanceMethod yX8_cutNumber ∈ lwG := mG 710 (by decide +kernel) (by decide +kernel)
theorem se_X8_cutNumber : Cond.selects RX8 yX8_cutNumber yX8_cutNumber ∈ lwG := mG 6 (by decide +kernel) (by decide +kernel)
theorem mw_X8_cutWord : MW yX8_cutWord cX8_cutWord 4 (some .int) 1 := ⟨mG 644 (by decide +kernel) (by decide +kernel), mG 132 (by decide +kernel) (by decide +kernel), by decide +kernel, ⟨by decide +kernel, by decide +kernel⟩, by decide +kernel, by decide⟩
theorem ml_X8_62 : Cond.methodLink RX8 62 yX8_cutWord ∈ lwG := mG 641 (by decide +kernel) (by decide +kernel)
theorem im_X8_cutWord : Cond.instanceMethod yX8_cutWord ∈ lwG := mG 643 (by decide +kernel) (by decide +kernel)
theorem se_X8_cutWord : Cond.selects RX8 yX8_cutWord yX8_cutWord ∈ lwG := mG 2 (by decide +kernel) (by decide +kernel)
theorem mw_X10_isBlank : MW yX10_isBlank cX10_isBlank 1 (some .boolean) 1 := ⟨mG 633 (by decide +kernel) (by decide +kernel), mG 123 (by decide +kernel) (by decide +kernel), by decide +kernel, ⟨by decide +kernel, by decide +kernel⟩, by decide +kernel, by decide⟩
theorem st_X10_isBlank : Cond.static yX10_isBlank ∈ lwG := mG 632 (by decide +kernel) (by decide +kernel)
theorem mw_X8_cutOne : MW yX8_cutOne cX8_cutOne 3 (some .int) 1 := ⟨mG 637 (by decide +kernel) (by decide +kernel), mG 132 (by decide +kernel) (by decide +kernel), by decide +kernel, ⟨by decide +kernel, by decide +kernel⟩, by decide +kernel, by decide⟩
theorem ml_X8_51 : Cond.methodLink RX8 51 yX8_cutOne ∈ lwG := mG 634 (by decide +kernel) (by decide +kernel)
theorem im_X8_cutOne : Cond.instanceMethod yX8_cutOne ∈ lwG := mG 636 (by decide +kernel) (by decide +kernel)
theorem se_X8_cutOne : Cond.selects RX8 yX8_cutOne yX8_cutOne ∈ lwG := mG 1 (by decide +kernel) (by decide +kernel)
theorem fl_X8_25 : Cond.fieldLink RX8 25 (TX8 7).1 (TX8 7).2.1 (TX8 7).2.2.1 ∈ lwG := mG 448 (by decide +kernel) (by decide +kernel)
theorem fi_8_7 : fI 8 7 = true := by decide +kernel
theorem zl_187 : 187 < Z1.length := by decide +kernel
theorem zk_187 : sK Z1 187 = (5, 8) := by decide +kernel
theorem zr_187_3 : sR Z1 187 3 = some 189 := by decide +kernel
theorem zr_187_4 : sR Z1 187 4 = some 190 := by decide +kernel
theorem zr_187_5 : sR Z1 187 5 = some 191 := by decide +kernel
theorem fl_X8_94 : Cond.fieldLink RX8 94 (TX5 2).1 (TX5 2).2.1 (TX5 2).2.2.1 ∈ lwG := mG 412 (by decide +kernel) (by decide +kernel)
theorem fl_X8_97 : Cond.fieldLink RX8 97 (TX5 3).1 (TX5 3).2.1 (TX5 3).2.2.1 ∈ lwG := mG 415 (by decide +kernel) (by decide +kernel)
theorem zr_187_0 : sR Z1 187 0 = some 188 := by decide +kernel
theorem zl_188 : 188 < Z1.length := by decide +kernel
theorem zk_188 : sK Z1 188 = (0, 400) := by decide +kernel
theorem fl_X4_27 : Cond.fieldLink RX4 27 (TX4 0).1 (TX4 0).2.1 (TX4 0).2.2.1 ∈ lwG := mG 467 (by decide +kernel) (by decide +kernel)
theorem fi_4_0 : fI 4 0 = false := by decide +kernel
theorem itk_194 : isTok 194 := (by decide +kernel : 194 ∈ tokL)
theorem zl_194 : 194 < Z1.length := by decide +kernel
theorem zk_194 : sK Z1 194 = (10, 8) := by decide +kernel
theorem mw_X8_wrong : MW yX8_wrong cX8_wrong 2 (some .boolean) 1 := ⟨mG 790 (by decide +kernel) (by decide +kernel), mG 132 (by decide +kernel) (by decide +kernel), by decide +kernel, ⟨by decide +kernel, by decide +kernel⟩, by decide +kernel, by decide⟩
theorem ml_X4_57 : Cond.methodLink RX4 57 yX8_wrong ∈ lwG := mG 787 (by decide +kernel) (by decide +kernel)
theorem im_X8_wrong : Cond.instanceMethod yX8_wrong ∈ lwG := mG 788 (by decide +kernel) (by decide +kernel)
theorem se_X8_wrong : Cond.selects RX8 yX8_wrong yX8_wrong ∈ lwG := mG 789 (by decide +kernel) (by decide +kernel)
theorem mw_X8_skip : MW yX8_skip cX8_skip 1 none 0 := ⟨mG 794 (by decide +kernel) (by decide +kernel), mG 132 (by decide +kernel) (by decide +kernel), by decide +kernel, ⟨by decide +kernel, by decide +kernel⟩, by decide +kernel, by decide⟩
theorem ml_X4_60 : Cond.methodLink RX4 60 yX8_skip ∈ lwG := mG 791 (by decide +kernel) (by decide +kernel)
theorem im_X8_skip : Cond.instanceMethod yX8_skip ∈ lwG := mG 792 (by decide +kernel) (by decide +kernel)
theorem se_X8_skip : Cond.selects RX8 yX8_skip yX8_skip ∈ lwG := mG 793 (by decide +kernel) (by decide +kernel)
theorem mw_X8_kind : MW yX8_kind cX8_kind 1 (some .int) 0 := ⟨mG 778 (by decide +kernel) (by decide +kernel), mG 132 (by decide +kernel) (by decide +kernel), by decide +kernel, ⟨by decide +kernel, by decide +kernel⟩, by decide +kernel, by decide⟩
theorem ml_X4_41 : Cond.methodLink RX4 41 yX8_kind ∈ lwG := mG 775 (by decide +kernel) (by decide +kernel)
theorem im_X8_kind : Cond.instanceMethod yX8_kind ∈ lwG := mG 776 (by decide +kernel) (by decide +kernel)
theorem se_X8_kind : Cond.selects RX8 yX8_kind yX8_kind ∈ lwG := mG 777 (by decide +kernel) (by decide +kernel)
theorem fl_X4_12 : Cond.fieldLink RX4 12 (TX4 1).1 (TX4 1).2.1 (TX4 1).2.2.1 ∈ lwG := mG 468 (by decide +kernel) (by decide +kernel)
theorem fi_4_1 : fI 4 1 = false := by decide +kernel
theorem mw_X8_value : MW yX8_value cX8_value 1 (some .int) 0 := ⟨mG 806 (by decide +kernel) (by decide +kernel), mG 132 (by decide +kernel) (by decide +kernel), by decide +kernel, ⟨by decide +kernel, by decide +kernel⟩, by decide +kernel, by decide⟩
theorem ml_X4_99 : Cond.methodLink RX4 99 yX8_value ∈ lwG := mG 803 (by decide +kernel) (by decide +kernel)
theorem im_X8_value : Cond.instanceMethod yX8_value ∈ lwG := mG 804 (by decide +kernel) (by decide +kernel)
theorem se_X8_value : Cond.selects RX8 yX8_value yX8_value ∈ lwG := mG 805 (by decide +kernel) (by decide +kernel)
theorem mw_X3_add : MW yX3_add cX3_add 2 none 1 := ⟨mG 810 (by decide +kernel) (by decide +kernel), mG 126 (by decide +kernel) (by decide +kernel), by decide +kernel, ⟨by decide +kernel, by decide +kernel⟩, by decide +kernel, by decide⟩
theorem ml_X4_86 : Cond.methodLink RX4 86 yX3_add ∈ lwG := mG 807 (by decide +kernel) (by decide +kernel)
theorem im_X3_add : Cond.instanceMethod yX3_add ∈ lwG := mG 808 (by decide +kernel) (by decide +kernel)
theorem se_X3_add : Cond.selects RX3 yX3_add yX3_add ∈ lwG := mG 809 (by decide +kernel) (by decide +kernel)
theorem ks_20003 : (Int16.ofInt (20003)).toInt32 = (20003 : Int32) := by decide +kernel
theorem mw_X4_readUnit : MW yX4_readUnit cX4_readUnit 1 (some .boolean) 0 := ⟨mG 802 (by decide +kernel) (by decide +kernel), mG 131 (by decide +kernel) (by decide +kernel), by decide +kernel, ⟨by decide +kernel, by decide +kernel⟩, by decide +kernel, by decide⟩
theorem ml_X4_93 : Cond.methodLink RX4 93 yX4_readUnit ∈ lwG := mG 799 (by decide +kernel) (by decide +kernel)
theorem im_X4_readUnit : Cond.instanceMethod yX4_readUnit ∈ lwG := mG 801 (by decide +kernel) (by decide +kernel)
theorem se_X4_readUnit : Cond.selects RX4 yX4_readUnit yX4_readUnit ∈ lwG := mG 10 (by decide +kernel) (by decide +kernel)
theorem ks_20001 : (Int16.ofInt (20001)).toInt32 = (20001 : Int32) := by decide +kernel
theorem kb_43 : (Int8.ofInt (43)).toInt32 = (43 : Int32) := by decide +kernel
theorem mw_X8_isSign : MW yX8_isSign cX8_isSign 2 (some .boolean) 1 := ⟨mG 814 (by decide +kernel) (by decide +kernel), mG 132 (by decide +kernel) (by decide +kernel), by decide +kernel, ⟨by decide +kernel, by decide +kernel⟩, by decide +kernel, by decide⟩
theorem ml_X4_90 : Cond.methodLink RX4 90 yX8_isSign ∈ lwG := mG 811 (by decide +kernel) (by decide +kernel)
theorem im_X8_isSign : Cond.instanceMethod yX8_isSign ∈ lwG := mG 812 (by decide +kernel) (by decide +kernel)
theorem se_X8_isSign : Cond.selects RX8 yX8_isSign yX8_isSign ∈ lwG := mG 813 (by decide +kernel) (by decide +kernel)
theorem kb_45 : (Int8.ofInt (45)).toInt32 = (45 : Int32) := by decide +kernel
theorem kb_42 : (Int8.ofInt (42)).toInt32 = (42 : Int32) := by decide +kernel
theorem kb_47 : (Int8.ofInt (47)).toInt32 = (47 : Int32) := by decide +kernel
theorem mw_X4_readDivisor : MW yX4_readDivisor cX4_readDivisor 1 (some .boolean) 0 := ⟨mG 818 (by decide +kernel) (by decide +kernel), mG 131 (by decide +kernel) (by decide +kernel), by decide +kernel, ⟨by decide +kernel, by decide +kernel⟩, by decide +kernel, by decide⟩
theorem ml_X4_96 : Cond.methodLink RX4 96 yX4_readDivisor ∈ lwG := mG 815 (by decide +kernel) (by decide +kernel)
theorem im_X4_readDivisor : Cond.instanceMethod yX4_readDivisor ∈ lwG := mG 817 (by decide +kernel) (by decide +kernel)
theorem se_X4_readDivisor : Cond.selects RX4 yX4_readDivisor yX4_readDivisor ∈ lwG := mG 11 (by decide +kernel) (by decide +kernel)
theorem ks_20002 : (Int16.ofInt (20002)).toInt32 = (20002 : Int32) := by decide +kernel
theorem ml_X8_109 : Cond.methodLink RX8 109 yX8_isSign ∈ lwG := mG 831 (by decide +kernel) (by decide +kernel)
theorem ml_X8_103 : Cond.methodLink RX8 103 yX8_wrong ∈ lwG := mG 832 (by decide +kernel) (by decide +kernel)
theorem ml_X8_106 : Cond.methodLink RX8 106 yX8_skip ∈ lwG := mG 833 (by decide +kernel) (by decide +kernel)
theorem ks_20009 : (Int16.ofInt (20009)).toInt32 = (20009 : Int32) := by decide +kernel
theorem mw_X4_readClaim : MW yX4_readClaim cX4_readClaim 4 (some .boolean) 1 := ⟨mG 826 (by decide +kernel) (by decide +kernel), mG 131 (by decide +kernel) (by decide +kernel), by decide +kernel, ⟨by decide +kernel, by decide +kernel⟩, by decide +kernel, by decide⟩
theorem ml_X4_83 : Cond.methodLink RX4 83 yX4_readClaim ∈ lwG := mG 823 (by decide +kernel) (by decide +kernel)
theorem im_X4_readClaim : Cond.instanceMethod yX4_readClaim ∈ lwG := mG 825 (by decide +kernel) (by decide +kernel)
theorem se_X4_readClaim : Cond.selects RX4 yX4_readClaim yX4_readClaim ∈ lwG := mG 13 (by decide +kernel) (by decide +kernel)
theorem mw_X8_isWord : MW yX8_isWord cX8_isWord 2 (some .boolean) 1 := ⟨mG 786 (by decide +kernel) (by decide +kernel), mG 132 (by decide +kernel) (by decide +kernel), by decide +kernel, ⟨by decide +kernel, by decide +kernel⟩, by decide +kernel, by decide⟩
theorem ml_X4_53 : Cond.methodLink RX4 53 yX8_isWord ∈ lwG := mG 783 (by decide +kernel) (by decide +kernel)
theorem im_X8_isWord : Cond.instanceMethod yX8_isWord ∈ lwG := mG 784 (by decide +kernel) (by decide +kernel)
theorem se_X8_isWord : Cond.selects RX8 yX8_isWord yX8_isWord ∈ lwG := mG 785 (by decide +kernel) (by decide +kernel)
theorem ks_20008 : (Int16.ofInt (20008)).toInt32 = (20008 : Int32) := by decide +kernel
theorem mw_X4_readCondition : MW yX4_readCondition cX4_readCondition 4 (some .boolean) 1 := ⟨mG 822 (by decide +kernel) (by decide +kernel), mG 131 (by decide +kernel) (by decide +kernel), by decide +kernel, ⟨by decide +kernel, by decide +kernel⟩, by decide +kernel, by decide⟩
theorem ml_X4_73 : Cond.methodLink RX4 73 yX4_readCondition ∈ lwG := mG 819 (by decide +kernel) (by decide +kernel)
theorem im_X4_readCondition : Cond.instanceMethod yX4_readCondition ∈ lwG := mG 821 (by decide +kernel) (by decide +kernel)
theorem se_X4_readCondition : Cond.selects RX4 yX4_readCondition yX4_readCondition ∈ lwG := mG 12 (by decide +kernel) (by decide +kernel)
theorem kb_41 : (Int8.ofInt (41)).toInt32 = (41 : Int32) := by decide +kernel
theorem mw_X8_skipSign : MW yX8_skipSign cX8_skipSign 2 (some .boolean) 1 := ⟨mG 830 (by decide +kernel) (by decide +kernel), mG 132 (by decide +kernel) (by decide +kernel), by decide +kernel, ⟨by decide +kernel, by decide +kernel⟩, by decide +kernel, by decide⟩
theorem ml_X4_79 : Cond.methodLink RX4 79 yX8_skipSign ∈ lwG := mG 827 (by decide +kernel) (by decide +kernel)
theorem im_X8_skipSign : Cond.instanceMethod yX8_skipSign ∈ lwG := mG 828 (by decide +kernel) (by decide +kernel)
theorem se_X8_skipSign : Cond.selects RX8 yX8_skipSign yX8_skipSign ∈ lwG := mG 829 (by decide +kernel) (by decide +kernel)
theorem mw_X4_readValue : MW yX4_readValue cX4_readValue 4 (some .boolean) 0 := ⟨mG 798 (by decide +kernel) (by decide +kernel), mG 131 (by decide +kernel) (by decide +kernel), by decide +kernel, ⟨by decide +kernel, by decide +kernel⟩, by decide +kernel, by decide⟩
theorem ml_X4_67 : Cond.methodLink RX4 67 yX4_readValue ∈ lwG := mG 795 (by decide +kernel) (by decide +kernel)
theorem im_X4_readValue : Cond.instanceMethod yX4_readValue ∈ lwG := mG 797 (by decide +kernel) (by decide +kernel)
theorem se_X4_readValue : Cond.selects RX4 yX4_readValue yX4_readValue ∈ lwG := mG 9 (by decide +kernel) (by decide +kernel)
theorem ks_20005 : (Int16.ofInt (20005)).toInt32 = (20005 : Int32) := by decide +kernel
theorem kb_60 : (Int8.ofInt (60)).toInt32 = (60 : Int32) := by decide +kernel
theorem kb_62 : (Int8.ofInt (62)).toInt32 = (62 : Int32) := by decide +kernel
theorem kb_61 : (Int8.ofInt (61)).toInt32 = (61 : Int32) := by decide +kernel
theorem ks_20006 : (Int16.ofInt (20006)).toInt32 = (20006 : Int32) := by decide +kernel
theorem ks_20004 : (Int16.ofInt (20004)).toInt32 = (20004 : Int32) := by decide +kernel
theorem fl_X4_76 : Cond.fieldLink RX4 76 (TX3 5).1 (TX3 5).2.1 (TX3 5).2.2.1 ∈ lwG := mG 271 (by decide +kernel) (by decide +kernel)
theorem fl_X4_34 : Cond.fieldLink RX4 34 (TX3 1).1 (TX3 1).2.1 (TX3 1).2.2.1 ∈ lwG := mG 262 (by decide +kernel) (by decide +kernel)
theorem zl_191 : 191 < Z1.length := by decide +kernel
theorem zk_191 : sK Z1 191 = (0, 16) := by decide +kernel
theorem fl_X4_38 : Cond.fieldLink RX4 38 (TX3 2).1 (TX3 2).2.1 (TX3 2).2.2.1 ∈ lwG := mG 264 (by decide +kernel) (by decide +kernel)
theorem kb_59 : (Int8.ofInt (59)).toInt32 = (59 : Int32) := by decide +kernel
theorem fl_X4_63 : Cond.fieldLink RX4 63 (TX3 3).1 (TX3 3).2.1 (TX3 3).2.2.1 ∈ lwG := mG 267 (by decide +kernel) (by decide +kernel)
theorem zl_189 : 189 < Z1.length := by decide +kernel
theorem zk_189 : sK Z1 189 = (0, 16) := by decide +kernel
theorem fl_X4_70 : Cond.fieldLink RX4 70 (TX3 4).1 (TX3 4).2.1 (TX3 4).2.2.1 ∈ lwG := mG 269 (by decide +kernel) (by decide +kernel)
theorem zl_190 : 190 < Z1.length := by decide +kernel
theorem zk_190 : sK Z1 190 = (0, 16) := by decide +kernel
theorem ml_X4_49 : Cond.methodLink RX4 49 yX3_become ∈ lwG := mG 834 (by decide +kernel) (by decide +kernel)
theorem mw_X4_readLine : MW yX4_readLine cX4_readLine 2 (some .boolean) 0 := ⟨mG 782 (by decide +kernel) (by decide +kernel), mG 131 (by decide +kernel) (by decide +kernel), by decide +kernel, ⟨by decide +kernel, by decide +kernel⟩, by decide +kernel, by decide⟩
theorem ml_X4_45 : Cond.methodLink RX4 45 yX4_readLine ∈ lwG := mG 779 (by decide +kernel) (by decide +kernel)
theorem im_X4_readLine : Cond.instanceMethod yX4_readLine ∈ lwG := mG 781 (by decide +kernel) (by decide +kernel)
theorem se_X4_readLine : Cond.selects RX4 yX4_readLine yX4_readLine ∈ lwG := mG 8 (by decide +kernel) (by decide +kernel)
theorem mw_X8_cut : MW yX8_cut cX8_cut 3 none 0 := ⟨mG 630 (by decide +kernel) (by decide +kernel), mG 132 (by decide +kernel) (by decide +kernel), by decide +kernel, ⟨by decide +kernel, by decide +kernel⟩, by decide +kernel, by decide⟩
theorem ml_X4_31 : Cond.methodLink RX4 31 yX8_cut ∈ lwG := mG 627 (by decide +kernel) (by decide +kernel)
theorem im_X8_cut : Cond.instanceMethod yX8_cut ∈ lwG := mG 628 (by decide +kernel) (by decide +kernel)
theorem se_X8_cut : Cond.selects RX8 yX8_cut yX8_cut ∈ lwG := mG 629 (by decide +kernel) (by decide +kernel)
theorem zl_198 : 198 < Z1.length := by decide +kernel
theorem zk_198 : sK Z1 198 = (11, 8) := by decide +kernel
theorem zr_198_1 : sR Z1 198 1 = some 202 := by decide +kernel
theorem zr_198_2 : sR Z1 198 2 = some 199 := by decide +kernel
theorem zr_198_3 : sR Z1 198 3 = some 200 := by decide +kernel
theorem zr_198_4 : sR Z1 198 4 = some 201 := by decide +kernel
theorem zr_198_0 : sR Z1 198 0 = some 184 := by decide +kernel
theorem fl_X9_46 : Cond.fieldLink RX9 46 (TX9 1).1 (TX9 1).2.1 (TX9 1).2.2.1 ∈ lwG := mG 485 (by decide +kernel) (by decide +kernel)
theorem fi_9_1 : fI 9 1 = false := by decide +kernel
theorem itk_202 : isTok 202 := (by decide +kernel : 202 ∈ tokL)
theorem zl_202 : 202 < Z1.length := by decide +kernel
theorem zk_202 : sK Z1 202 = (10, 8) := by decide +kernel
theorem ml_X9_83 : Cond.methodLink RX9 83 yX8_wrong ∈ lwG := mG 852 (by decide +kernel) (by decide +kernel)
theorem fl_X9_11 : Cond.fieldLink RX9 11 (TX9 2).1 (TX9 2).2.1 (TX9 2).2.2.1 ∈ lwG := mG 486 (by decide +kernel) (by decide +kernel)
theorem fi_9_2 : fI 9 2 = false := by decide +kernel
theorem fl_X9_23 : Cond.fieldLink RX9 23 (TX9 5).1 (TX9 5).2.1 (TX9 5).2.2.1 ∈ lwG := mG 489 (by decide +kernel) (by decide +kernel)
theorem fi_9_5 : fI 9 5 = true := by decide +kernel
theorem zl_199 : 199 < Z1.length := by decide +kernel
theorem zk_199 : sK Z1 199 = (0, 12) := by decide +kernel
theorem ml_X9_86 : Cond.methodLink RX9 86 yX8_skip ∈ lwG := mG 853 (by decide +kernel) (by decide +kernel)
theorem kb_46 : (Int8.ofInt (46)).toInt32 = (46 : Int32) := by decide +kernel
theorem kb_26 : (Int8.ofInt (26)).toInt32 = (26 : Int32) := by decide +kernel
theorem kb_44 : (Int8.ofInt (44)).toInt32 = (44 : Int32) := by decide +kernel
theorem kb_27 : (Int8.ofInt (27)).toInt32 = (27 : Int32) := by decide +kernel
theorem fl_X9_33 : Cond.fieldLink RX9 33 (TX9 0).1 (TX9 0).2.1 (TX9 0).2.2.1 ∈ lwG := mG 484 (by decide +kernel) (by decide +kernel)
theorem fi_9_0 : fI 9 0 = false := by decide +kernel
theorem fl_X9_113 : Cond.fieldLink RX9 113 (TX5 1).1 (TX5 1).2.1 (TX5 1).2.2.1 ∈ lwG := mG 408 (by decide +kernel) (by decide +kernel)
theorem mw_X5_wrong : MW yX5_wrong cX5_wrong 3 (some .int) 2 := ⟨mG 874 (by decide +kernel) (by decide +kernel), mG 130 (by decide +kernel) (by decide +kernel), by decide +kernel, ⟨by decide +kernel, by decide +kernel⟩, by decide +kernel, by decide⟩
theorem ml_X9_129 : Cond.methodLink RX9 129 yX5_wrong ∈ lwG := mG 871 (by decide +kernel) (by decide +kernel)
theorem im_X5_wrong : Cond.instanceMethod yX5_wrong ∈ lwG := mG 872 (by decide +kernel) (by decide +kernel)
theorem se_X5_wrong : Cond.selects RX5 yX5_wrong yX5_wrong ∈ lwG := mG 873 (by decide +kernel) (by decide +kernel)
theorem fl_X9_118 : Cond.fieldLink RX9 118 (TX5 0).1 (TX5 0).2.1 (TX5 0).2.2.1 ∈ lwG := mG 404 (by decide +kernel) (by decide +kernel)
theorem mw_X9_endRow : MW yX9_endRow cX9_endRow 3 (some .boolean) 2 := ⟨mG 867 (by decide +kernel) (by decide +kernel), mG 133 (by decide +kernel) (by decide +kernel), by decide +kernel, ⟨by decide +kernel, by decide +kernel⟩, by decide +kernel, by decide⟩
theorem ml_X9_121 : Cond.methodLink RX9 121 yX9_endRow ∈ lwG := mG 864 (by decide +kernel) (by decide +kernel)
theorem im_X9_endRow : Cond.instanceMethod yX9_endRow ∈ lwG := mG 866 (by decide +kernel) (by decide +kernel)
theorem se_X9_endRow : Cond.selects RX9 yX9_endRow yX9_endRow ∈ lwG := mG 16 (by decide +kernel) (by decide +kernel)
theorem mw_X10_letterOf : MW yX10_letterOf cX10_letterOf 1 (some .int) 1 := ⟨mG 870 (by decide +kernel) (by decide +kernel), mG 123 (by decide +kernel) (by decide +kernel), by decide +kernel, ⟨by decide +kernel, by decide +kernel⟩, by decide +kernel, by decide⟩
theorem st_X10_letterOf : Cond.static yX10_letterOf ∈ lwG := mG 869 (by decide +kernel) (by decide +kernel)
theorem ml_X9_107 : Cond.methodLink RX9 107 yX8_isSign ∈ lwG := mG 859 (by decide +kernel) (by decide +kernel)
theorem mw_X8_place : MW yX8_place cX8_place 1 (some .int) 0 := ⟨mG 863 (by decide +kernel) (by decide +kernel), mG 132 (by decide +kernel) (by decide +kernel), by decide +kernel, ⟨by decide +kernel, by decide +kernel⟩, by decide +kernel, by decide⟩
theorem ml_X9_110 : Cond.methodLink RX9 110 yX8_place ∈ lwG := mG 860 (by decide +kernel) (by decide +kernel)
theorem im_X8_place : Cond.instanceMethod yX8_place ∈ lwG := mG 861 (by decide +kernel) (by decide +kernel)
theorem se_X8_place : Cond.selects RX8 yX8_place yX8_place ∈ lwG := mG 862 (by decide +kernel) (by decide +kernel)
theorem ml_X8_100 : Cond.methodLink RX8 100 yX8_isWord ∈ lwG := mG 879 (by decide +kernel) (by decide +kernel)
theorem ml_X9_53 : Cond.methodLink RX9 53 yX8_kind ∈ lwG := mG 846 (by decide +kernel) (by decide +kernel)
theorem ml_X9_104 : Cond.methodLink RX9 104 yX8_value ∈ lwG := mG 884 (by decide +kernel) (by decide +kernel)
theorem fl_X9_30 : Cond.fieldLink RX9 30 (TX9 7).1 (TX9 7).2.1 (TX9 7).2.2.1 ∈ lwG := mG 491 (by decide +kernel) (by decide +kernel)
theorem fi_9_7 : fI 9 7 = true := by decide +kernel
theorem fl_X9_27 : Cond.fieldLink RX9 27 (TX9 6).1 (TX9 6).2.1 (TX9 6).2.2.1 ∈ lwG := mG 490 (by decide +kernel) (by decide +kernel)
theorem fi_9_6 : fI 9 6 = true := by decide +kernel
theorem zl_200 : 200 < Z1.length := by decide +kernel
theorem zk_200 : sK Z1 200 = (0, 12) := by decide +kernel
theorem zl_201 : 201 < Z1.length := by decide +kernel
theorem zk_201 : sK Z1 201 = (0, 12) := by decide +kernel
theorem ml_X9_100 : Cond.methodLink RX9 100 yX8_skipSign ∈ lwG := mG 885 (by decide +kernel) (by decide +kernel)
theorem mw_X8_skipWord : MW yX8_skipWord cX8_skipWord 2 (some .boolean) 1 := ⟨mG 878 (by decide +kernel) (by decide +kernel), mG 132 (by decide +kernel) (by decide +kernel), by decide +kernel, ⟨by decide +kernel, by decide +kernel⟩, by decide +kernel, by decide⟩
theorem ml_X9_93 : Cond.methodLink RX9 93 yX8_skipWord ∈ lwG := mG 875 (by decide +kernel) (by decide +kernel)
theorem im_X8_skipWord : Cond.instanceMethod yX8_skipWord ∈ lwG := mG 876 (by decide +kernel) (by decide +kernel)
theorem se_X8_skipWord : Cond.selects RX8 yX8_skipWord yX8_skipWord ∈ lwG := mG 877 (by decide +kernel) (by decide +kernel)
theorem fl_X9_17 : Cond.fieldLink RX9 17 (TX9 3).1 (TX9 3).2.1 (TX9 3).2.2.1 ∈ lwG := mG 487 (by decide +kernel) (by decide +kernel)
theorem fi_9_3 : fI 9 3 = false := by decide +kernel
theorem mw_X9_readPerson : MW yX9_readPerson cX9_readPerson 3 (some .boolean) 1 := ⟨mG 883 (by decide +kernel) (by decide +kernel), mG 133 (by decide +kernel) (by decide +kernel), by decide +kernel, ⟨by decide +kernel, by decide +kernel⟩, by decide +kernel, by decide⟩
theorem ml_X9_96 : Cond.methodLink RX9 96 yX9_readPerson ∈ lwG := mG 880 (by decide +kernel) (by decide +kernel)
theorem im_X9_readPerson : Cond.instanceMethod yX9_readPerson ∈ lwG := mG 882 (by decide +kernel) (by decide +kernel)
theorem se_X9_readPerson : Cond.selects RX9 yX9_readPerson yX9_readPerson ∈ lwG := mG 17 (by decide +kernel) (by decide +kernel)
theorem fl_X9_20 : Cond.fieldLink RX9 20 (TX9 4).1 (TX9 4).2.1 (TX9 4).2.2.1 ∈ lwG := mG 488 (by decide +kernel) (by decide +kernel)
theorem fi_9_4 : fI 9 4 = false := by decide +kernel
theorem ml_X9_79 : Cond.methodLink RX9 79 yX8_isWord ∈ lwG := mG 851 (by decide +kernel) (by decide +kernel)
theorem con_X9_89 : Cond.constant RX9 89 (268435455) ∈ lwG := mG 854 (by decide +kernel) (by decide +kernel)
theorem mw_X9_readRow : MW yX9_readRow cX9_readRow 5 (some .boolean) 0 := ⟨mG 858 (by decide +kernel) (by decide +kernel), mG 133 (by decide +kernel) (by decide +kernel), by decide +kernel, ⟨by decide +kernel, by decide +kernel⟩, by decide +kernel, by decide⟩
theorem ml_X9_90 : Cond.methodLink RX9 90 yX9_readRow ∈ lwG := mG 855 (by decide +kernel) (by decide +kernel)
theorem im_X9_readRow : Cond.instanceMethod yX9_readRow ∈ lwG := mG 857 (by decide +kernel) (by decide +kernel)
theorem se_X9_readRow : Cond.selects RX9 yX9_readRow yX9_readRow ∈ lwG := mG 15 (by decide +kernel) (by decide +kernel)
theorem fl_X9_61 : Cond.fieldLink RX9 61 (TX6 2).1 (TX6 2).2.1 (TX6 2).2.2.1 ∈ lwG := mG 298 (by decide +kernel) (by decide +kernel)
theorem ml_X9_64 : Cond.methodLink RX9 64 arraycopyName ∈ lwG := mG 886 (by decide +kernel) (by decide +kernel)
theorem fl_X9_70 : Cond.fieldLink RX9 70 (TX6 3).1 (TX6 3).2.1 (TX6 3).2.2.1 ∈ lwG := mG 300 (by decide +kernel) (by decide +kernel)
theorem fl_X9_73 : Cond.fieldLink RX9 73 (TX6 4).1 (TX6 4).2.1 (TX6 4).2.2.1 ∈ lwG := mG 302 (by decide +kernel) (by decide +kernel)
theorem fl_X9_76 : Cond.fieldLink RX9 76 (TX6 1).1 (TX6 1).2.1 (TX6 1).2.2.1 ∈ lwG := mG 295 (by decide +kernel) (by decide +kernel)
theorem mw_X9_readLine : MW yX9_readLine cX9_readLine 2 (some .boolean) 0 := ⟨mG 850 (by decide +kernel) (by decide +kernel), mG 133 (by decide +kernel) (by decide +kernel), by decide +kernel, ⟨by decide +kernel, by decide +kernel⟩, by decide +kernel, by decide⟩
theorem ml_X9_57 : Cond.methodLink RX9 57 yX9_readLine ∈ lwG := mG 847 (by decide +kernel) (by decide +kernel)
theorem im_X9_readLine : Cond.instanceMethod yX9_readLine ∈ lwG := mG 849 (by decide +kernel) (by decide +kernel)
theorem se_X9_readLine : Cond.selects RX9 yX9_readLine yX9_readLine ∈ lwG := mG 14 (by decide +kernel) (by decide +kernel)
theorem ml_X9_50 : Cond.methodLink RX9 50 yX8_cut ∈ lwG := mG 845 (by decide +kernel) (by decide +kernel)
theorem fl_X6_54 : Cond.fieldLink RX6 54 (TX5 1).1 (TX5 1).2.1 (TX5 1).2.2.1 ∈ lwG := mG 407 (by decide +kernel) (by decide +kernel)
theorem ml_X6_70 : Cond.methodLink RX6 70 yX5_wrong ∈ lwG := mG 893 (by decide +kernel) (by decide +kernel)
theorem fl_X6_59 : Cond.fieldLink RX6 59 (TX5 0).1 (TX5 0).2.1 (TX5 0).2.2.1 ∈ lwG := mG 403 (by decide +kernel) (by decide +kernel)
theorem mw_X6_addDeed : MW yX6_addDeed cX6_addDeed 7 (some .int) 1 := ⟨mG 890 (by decide +kernel) (by decide +kernel), mG 125 (by decide +kernel) (by decide +kernel), by decide +kernel, ⟨by decide +kernel, by decide +kernel⟩, by decide +kernel, by decide⟩
theorem ml_X10_161 : Cond.methodLink RX10 161 yX6_addDeed ∈ lwG := mG 887 (by decide +kernel) (by decide +kernel)
theorem im_X6_addDeed : Cond.instanceMethod yX6_addDeed ∈ lwG := mG 888 (by decide +kernel) (by decide +kernel)
theorem se_X6_addDeed : Cond.selects RX6 yX6_addDeed yX6_addDeed ∈ lwG := mG 889 (by decide +kernel) (by decide +kernel)
theorem mw_X5_faultless : MW yX5_faultless cX5_faultless 1 none 0 := ⟨mG 622 (by decide +kernel) (by decide +kernel), mG 130 (by decide +kernel) (by decide +kernel), by decide +kernel, ⟨by decide +kernel, by decide +kernel⟩, by decide +kernel, by decide⟩
theorem ml_X10_144 : Cond.methodLink RX10 144 yX5_faultless ∈ lwG := mG 619 (by decide +kernel) (by decide +kernel)
theorem im_X5_faultless : Cond.instanceMethod yX5_faultless ∈ lwG := mG 620 (by decide +kernel) (by decide +kernel)
theorem se_X5_faultless : Cond.selects RX5 yX5_faultless yX5_faultless ∈ lwG := mG 621 (by decide +kernel) (by decide +kernel)
theorem fl_X10_58 : Cond.fieldLink RX10 58 (TX10 6).1 (TX10 6).2.1 (TX10 6).2.2.1 ∈ lwG := mG 515 (by decide +kernel) (by decide +kernel)
theorem fi_10_6 : fI 10 6 = false := by decide +kernel
theorem mw_X4_read : MW yX4_read cX4_read 3 (some .int) 1 := ⟨mG 626 (by decide +kernel) (by decide +kernel), mG 131 (by decide +kernel) (by decide +kernel), by decide +kernel, ⟨by decide +kernel, by decide +kernel⟩, by decide +kernel, by decide⟩
theorem ml_X10_151 : Cond.methodLink RX10 151 yX4_read ∈ lwG := mG 623 (by decide +kernel) (by decide +kernel)
theorem im_X4_read : Cond.instanceMethod yX4_read ∈ lwG := mG 624 (by decide +kernel) (by decide +kernel)
theorem se_X4_read : Cond.selects RX4 yX4_read yX4_read ∈ lwG := mG 625 (by decide +kernel) (by decide +kernel)
theorem fl_X10_65 : Cond.fieldLink RX10 65 (TX10 7).1 (TX10 7).2.1 (TX10 7).2.2.1 ∈ lwG := mG 516 (by decide +kernel) (by decide +kernel)
theorem fi_10_7 : fI 10 7 = false := by decide +kernel
theorem mw_X9_read : MW yX9_read cX9_read 5 (some .int) 3 := ⟨mG 844 (by decide +kernel) (by decide +kernel), mG 133 (by decide +kernel) (by decide +kernel), by decide +kernel, ⟨by decide +kernel, by decide +kernel⟩, by decide +kernel, by decide⟩
theorem ml_X10_155 : Cond.methodLink RX10 155 yX9_read ∈ lwG := mG 841 (by decide +kernel) (by decide +kernel)
theorem im_X9_read : Cond.instanceMethod yX9_read ∈ lwG := mG 842 (by decide +kernel) (by decide +kernel)
theorem se_X9_read : Cond.selects RX9 yX9_read yX9_read ∈ lwG := mG 843 (by decide +kernel) (by decide +kernel)
theorem mw_X0_changeOf : MW yX0_changeOf cX0_changeOf 5 (some .int) 2 := ⟨mG 1096 (by decide +kernel) (by decide +kernel), mG 127 (by decide +kernel) (by decide +kernel), by decide +kernel, ⟨by decide +kernel, by decide +kernel⟩, by decide +kernel, by decide⟩
theorem ml_X10_279 : Cond.methodLink RX10 279 yX0_changeOf ∈ lwG := mG 1093 (by decide +kernel) (by decide +kernel)
theorem im_X0_changeOf : Cond.instanceMethod yX0_changeOf ∈ lwG := mG 1094 (by decide +kernel) (by decide +kernel)
theorem se_X0_changeOf : Cond.selects RX0 yX0_changeOf yX0_changeOf ∈ lwG := mG 1095 (by decide +kernel) (by decide +kernel)
theorem mw_X2_goBack : MW yX2_goBack cX2_goBack 3 (some .boolean) 2 := ⟨mG 1197 (by decide +kernel) (by decide +kernel), mG 128 (by decide +kernel) (by decide +kernel), by decide +kernel, ⟨by decide +kernel, by decide +kernel⟩, by decide +kernel, by decide⟩
theorem ml_X10_318 : Cond.methodLink RX10 318 yX2_goBack ∈ lwG := mG 1194 (by decide +kernel) (by decide +kernel)
theorem im_X2_goBack : Cond.instanceMethod yX2_goBack ∈ lwG := mG 1195 (by decide +kernel) (by decide +kernel)
theorem se_X2_goBack : Cond.selects RX2 yX2_goBack yX2_goBack ∈ lwG := mG 1196 (by decide +kernel) (by decide +kernel)
theorem ml_X1_90 : Cond.methodLink RX1 90 yX1_isParent ∈ lwG := mG 907 (by decide +kernel) (by decide +kernel)
theorem mw_X1_mayWed : MW yX1_mayWed cX1_mayWed 3 (some .boolean) 2 := ⟨mG 905 (by decide +kernel) (by decide +kernel), mG 124 (by decide +kernel) (by decide +kernel), by decide +kernel, ⟨by decide +kernel, by decide +kernel⟩, by decide +kernel, by decide⟩
theorem ml_X10_171 : Cond.methodLink RX10 171 yX1_mayWed ∈ lwG := mG 902 (by decide +kernel) (by decide +kernel)
theorem im_X1_mayWed : Cond.instanceMethod yX1_mayWed ∈ lwG := mG 903 (by decide +kernel) (by decide +kernel)
theorem se_X1_mayWed : Cond.selects RX1 yX1_mayWed yX1_mayWed ∈ lwG := mG 904 (by decide +kernel) (by decide +kernel)
theorem mw_X1_join : MW yX1_join cX1_join 3 none 2 := ⟨mG 923 (by decide +kernel) (by decide +kernel), mG 124 (by decide +kernel) (by decide +kernel), by decide +kernel, ⟨by decide +kernel, by decide +kernel⟩, by decide +kernel, by decide⟩
theorem ml_X10_179 : Cond.methodLink RX10 179 yX1_join ∈ lwG := mG 920 (by decide +kernel) (by decide +kernel)
theorem im_X1_join : Cond.instanceMethod yX1_join ∈ lwG := mG 921 (by decide +kernel) (by decide +kernel)
theorem se_X1_join : Cond.selects RX1 yX1_join yX1_join ∈ lwG := mG 922 (by decide +kernel) (by decide +kernel)
theorem zr_165_4 : sR Z1 165 4 = some 183 := by decide +kernel
theorem ml_X7_102 : Cond.methodLink RX7 102 yX1_mayWed ∈ lwG := mG 1122 (by decide +kernel) (by decide +kernel)
theorem ml_X7_105 : Cond.methodLink RX7 105 yX1_join ∈ lwG := mG 1123 (by decide +kernel) (by decide +kernel)
theorem mw_X7_isWritable : MW yX7_isWritable cX7_isWritable 3 (some .boolean) 2 := ⟨mG 1117 (by decide +kernel) (by decide +kernel), mG 129 (by decide +kernel) (by decide +kernel), by decide +kernel, ⟨by decide +kernel, by decide +kernel⟩, by decide +kernel, by decide⟩
theorem ml_X7_91 : Cond.methodLink RX7 91 yX7_isWritable ∈ lwG := mG 1114 (by decide +kernel) (by decide +kernel)
theorem im_X7_isWritable : Cond.instanceMethod yX7_isWritable ∈ lwG := mG 1116 (by decide +kernel) (by decide +kernel)
theorem se_X7_isWritable : Cond.selects RX7 yX7_isWritable yX7_isWritable ∈ lwG := mG 24 (by decide +kernel) (by decide +kernel)
theorem ml_X7_108 : Cond.methodLink RX7 108 yX1_separate ∈ lwG := mG 1124 (by decide +kernel) (by decide +kernel)
theorem fl_X7_22 : Cond.fieldLink RX7 22 (TX7 4).1 (TX7 4).2.1 (TX7 4).2.2.1 ∈ lwG := mG 383 (by decide +kernel) (by decide +kernel)
theorem fi_7_4 : fI 7 4 = false := by decide +kernel
theorem zl_183 : 183 < Z1.length := by decide +kernel
theorem zk_183 : sK Z1 183 = (0, 5) := by decide +kernel
theorem ib_0_5 : inB (0 : Int32) 5 = true := by decide +kernel
theorem ib_1_5 : inB (1 : Int32) 5 = true := by decide +kernel
theorem ix_1 : ix (1 : Int32) = 1 := by decide +kernel
theorem ib_2_5 : inB (2 : Int32) 5 = true := by decide +kernel
theorem ib_3_5 : inB (3 : Int32) 5 = true := by decide +kernel
theorem ib_4_5 : inB (4 : Int32) 5 = true := by decide +kernel
theorem ix_4 : ix (4 : Int32) = 4 := by decide +kernel
theorem mw_X7_planSecond : MW yX7_planSecond cX7_planSecond 7 (some .boolean) 3 := ⟨mG 1132 (by decide +kernel) (by decide +kernel), mG 129 (by decide +kernel) (by decide +kernel), by decide +kernel, ⟨by decide +kernel, by decide +kernel⟩, by decide +kernel, by decide⟩
theorem ml_X7_111 : Cond.methodLink RX7 111 yX7_planSecond ∈ lwG := mG 1129 (by decide +kernel) (by decide +kernel)
theorem im_X7_planSecond : Cond.instanceMethod yX7_planSecond ∈ lwG := mG 1131 (by decide +kernel) (by decide +kernel)
theorem se_X7_planSecond : Cond.selects RX7 yX7_planSecond yX7_planSecond ∈ lwG := mG 27 (by decide +kernel) (by decide +kernel)
theorem kn_5 : Int32.ofNat 5 = (5 : Int32) := by decide +kernel
theorem mw_X7_planOne : MW yX7_planOne cX7_planOne 6 (some .boolean) 2 := ⟨mG 1121 (by decide +kernel) (by decide +kernel), mG 129 (by decide +kernel) (by decide +kernel), by decide +kernel, ⟨by decide +kernel, by decide +kernel⟩, by decide +kernel, by decide⟩
theorem ml_X7_95 : Cond.methodLink RX7 95 yX7_planOne ∈ lwG := mG 1118 (by decide +kernel) (by decide +kernel)
theorem im_X7_planOne : Cond.instanceMethod yX7_planOne ∈ lwG := mG 1120 (by decide +kernel) (by decide +kernel)
theorem se_X7_planOne : Cond.selects RX7 yX7_planOne yX7_planOne ∈ lwG := mG 25 (by decide +kernel) (by decide +kernel)
theorem mw_X7_planTwo : MW yX7_planTwo cX7_planTwo 6 none 2 := ⟨mG 1128 (by decide +kernel) (by decide +kernel), mG 129 (by decide +kernel) (by decide +kernel), by decide +kernel, ⟨by decide +kernel, by decide +kernel⟩, by decide +kernel, by decide⟩
theorem ml_X7_98 : Cond.methodLink RX7 98 yX7_planTwo ∈ lwG := mG 1125 (by decide +kernel) (by decide +kernel)
theorem im_X7_planTwo : Cond.instanceMethod yX7_planTwo ∈ lwG := mG 1127 (by decide +kernel) (by decide +kernel)
theorem se_X7_planTwo : Cond.selects RX7 yX7_planTwo yX7_planTwo ∈ lwG := mG 26 (by decide +kernel) (by decide +kernel)
theorem mw_X7_fewestWeddings : MW yX7_fewestWeddings cX7_fewestWeddings 5 (some .int) 3 := ⟨mG 1112 (by decide +kernel) (by decide +kernel), mG 129 (by decide +kernel) (by decide +kernel), by decide +kernel, ⟨by decide +kernel, by decide +kernel⟩, by decide +kernel, by decide⟩
theorem ml_X10_292 : Cond.methodLink RX10 292 yX7_fewestWeddings ∈ lwG := mG 1109 (by decide +kernel) (by decide +kernel)
theorem im_X7_fewestWeddings : Cond.instanceMethod yX7_fewestWeddings ∈ lwG := mG 1110 (by decide +kernel) (by decide +kernel)
theorem se_X7_fewestWeddings : Cond.selects RX7 yX7_fewestWeddings yX7_fewestWeddings ∈ lwG := mG 1111 (by decide +kernel) (by decide +kernel)
theorem fl_X7_84 : Cond.fieldLink RX7 84 (TX1 1).1 (TX1 1).2.1 (TX1 1).2.2.1 ∈ lwG := mG 162 (by decide +kernel) (by decide +kernel)
theorem ml_X7_87 : Cond.methodLink RX7 87 yX1_endDay ∈ lwG := mG 1141 (by decide +kernel) (by decide +kernel)
theorem mw_X7_firstDay : MW yX7_firstDay cX7_firstDay 4 (some .int) 2 := ⟨mG 1140 (by decide +kernel) (by decide +kernel), mG 129 (by decide +kernel) (by decide +kernel), by decide +kernel, ⟨by decide +kernel, by decide +kernel⟩, by decide +kernel, by decide⟩
theorem ml_X10_295 : Cond.methodLink RX10 295 yX7_firstDay ∈ lwG := mG 1137 (by decide +kernel) (by decide +kernel)
theorem im_X7_firstDay : Cond.instanceMethod yX7_firstDay ∈ lwG := mG 1138 (by decide +kernel) (by decide +kernel)
theorem se_X7_firstDay : Cond.selects RX7 yX7_firstDay yX7_firstDay ∈ lwG := mG 1139 (by decide +kernel) (by decide +kernel)
theorem ml_X10_305 : Cond.methodLink RX10 305 yX3_worthOf ∈ lwG := mG 1161 (by decide +kernel) (by decide +kernel)
theorem zl_239 : 239 < Z1.length := by decide +kernel
theorem zk_239 : sK Z1 239 = (13, 54) := by decide +kernel
theorem zr_239_41 : sR Z1 239 41 = some 262 := by decide +kernel
theorem zr_239_43 : sR Z1 239 43 = some 264 := by decide +kernel
theorem fl_X11_125 : Cond.fieldLink RX11 125 (TX11 40).1 (TX11 40).2.1 (TX11 40).2.2.1 ∈ lwG := mG 1260 (by decide +kernel) (by decide +kernel)
theorem fi_11_40 : fI 11 40 = true := by decide +kernel
theorem fl_X11_107 : Cond.fieldLink RX11 107 (TX11 0).1 (TX11 0).2.1 (TX11 0).2.2.1 ∈ lwG := mG 1220 (by decide +kernel) (by decide +kernel)
theorem fi_11_0 : fI 11 0 = true := by decide +kernel
theorem mw_X11_isDeed : MW yX11_isDeed cX11_isDeed 2 (some .boolean) 1 := ⟨mG 1658 (by decide +kernel) (by decide +kernel), mG 134 (by decide +kernel) (by decide +kernel), by decide +kernel, ⟨by decide +kernel, by decide +kernel⟩, by decide +kernel, by decide⟩
theorem ml_X11_369 : Cond.methodLink RX11 369 yX11_isDeed ∈ lwG := mG 1655 (by decide +kernel) (by decide +kernel)
theorem im_X11_isDeed : Cond.instanceMethod yX11_isDeed ∈ lwG := mG 1657 (by decide +kernel) (by decide +kernel)
theorem se_X11_isDeed : Cond.selects RX11 yX11_isDeed yX11_isDeed ∈ lwG := mG 81 (by decide +kernel) (by decide +kernel)
theorem fl_X11_80 : Cond.fieldLink RX11 80 (TX11 41).1 (TX11 41).2.1 (TX11 41).2.2.1 ∈ lwG := mG 1261 (by decide +kernel) (by decide +kernel)
theorem fi_11_41 : fI 11 41 = false := by decide +kernel
theorem zl_262 : 262 < Z1.length := by decide +kernel
theorem zk_262 : sK Z1 262 = (0, 8) := by decide +kernel
theorem mw_X11_isIn : MW yX11_isIn cX11_isIn 4 (some .boolean) 3 := ⟨mG 1419 (by decide +kernel) (by decide +kernel), mG 134 (by decide +kernel) (by decide +kernel), by decide +kernel, ⟨by decide +kernel, by decide +kernel⟩, by decide +kernel, by decide⟩
theorem ml_X11_147 : Cond.methodLink RX11 147 yX11_isIn ∈ lwG := mG 1416 (by decide +kernel) (by decide +kernel)
theorem im_X11_isIn : Cond.instanceMethod yX11_isIn ∈ lwG := mG 1418 (by decide +kernel) (by decide +kernel)
theorem se_X11_isIn : Cond.selects RX11 yX11_isIn yX11_isIn ∈ lwG := mG 34 (by decide +kernel) (by decide +kernel)
theorem fl_X11_86 : Cond.fieldLink RX11 86 (TX11 43).1 (TX11 43).2.1 (TX11 43).2.2.1 ∈ lwG := mG 1263 (by decide +kernel) (by decide +kernel)
theorem fi_11_43 : fI 11 43 = false := by decide +kernel
theorem zl_264 : 264 < Z1.length := by decide +kernel
theorem zk_264 : sK Z1 264 = (0, 360) := by decide +kernel
theorem fl_X11_122 : Cond.fieldLink RX11 122 (TX11 6).1 (TX11 6).2.1 (TX11 6).2.2.1 ∈ lwG := mG 1226 (by decide +kernel) (by decide +kernel)
theorem fi_11_6 : fI 11 6 = true := by decide +kernel
theorem zr_239_1 : sR Z1 239 1 = some 240 := by decide +kernel
theorem fl_X11_7 : Cond.fieldLink RX11 7 (TX11 1).1 (TX11 1).2.1 (TX11 1).2.2.1 ∈ lwG := mG 1221 (by decide +kernel) (by decide +kernel)
theorem fi_11_1 : fI 11 1 = false := by decide +kernel
theorem zl_240 : 240 < Z1.length := by decide +kernel
theorem zk_240 : sK Z1 240 = (0, 148) := by decide +kernel
theorem ib_3_148 : inB (3 : Int32) 148 = true := by decide +kernel
theorem mw_X11_isPerson : MW yX11_isPerson cX11_isPerson 2 (some .boolean) 1 := ⟨mG 1414 (by decide +kernel) (by decide +kernel), mG 134 (by decide +kernel) (by decide +kernel), by decide +kernel, ⟨by decide +kernel, by decide +kernel⟩, by decide +kernel, by decide⟩
theorem ml_X11_128 : Cond.methodLink RX11 128 yX11_isPerson ∈ lwG := mG 1411 (by decide +kernel) (by decide +kernel)
theorem im_X11_isPerson : Cond.instanceMethod yX11_isPerson ∈ lwG := mG 1413 (by decide +kernel) (by decide +kernel)
theorem se_X11_isPerson : Cond.selects RX11 yX11_isPerson yX11_isPerson ∈ lwG := mG 33 (by decide +kernel) (by decide +kernel)
theorem mw_X11_doesLive : MW yX11_doesLive cX11_doesLive 2 (some .boolean) 1 := ⟨mG 1435 (by decide +kernel) (by decide +kernel), mG 134 (by decide +kernel) (by decide +kernel), by decide +kernel, ⟨by decide +kernel, by decide +kernel⟩, by decide +kernel, by decide⟩
theorem ml_X11_132 : Cond.methodLink RX11 132 yX11_doesLive ∈ lwG := mG 1432 (by decide +kernel) (by decide +kernel)
theorem im_X11_doesLive : Cond.instanceMethod yX11_doesLive ∈ lwG := mG 1434 (by decide +kernel) (by decide +kernel)
theorem se_X11_doesLive : Cond.selects RX11 yX11_doesLive yX11_doesLive ∈ lwG := mG 37 (by decide +kernel) (by decide +kernel)
theorem zr_239_4 : sR Z1 239 4 = some 242 := by decide +kernel
theorem ks_148 : (Int16.ofInt (148)).toInt32 = (148 : Int32) := by decide +kernel
theorem fl_X11_116 : Cond.fieldLink RX11 116 (TX11 5).1 (TX11 5).2.1 (TX11 5).2.2.1 ∈ lwG := mG 1225 (by decide +kernel) (by decide +kernel)
theorem fi_11_5 : fI 11 5 = true := by decide +kernel
theorem fl_X11_16 : Cond.fieldLink RX11 16 (TX11 4).1 (TX11 4).2.1 (TX11 4).2.2.1 ∈ lwG := mG 1224 (by decide +kernel) (by decide +kernel)
theorem fi_11_4 : fI 11 4 = false := by decide +kernel
theorem zl_242 : 242 < Z1.length := by decide +kernel
theorem zk_242 : sK Z1 242 = (0, 148) := by decide +kernel
theorem zr_239_42 : sR Z1 239 42 = some 263 := by decide +kernel
theorem zr_239_46 : sR Z1 239 46 = some 267 := by decide +kernel
theorem zr_239_14 : sR Z1 239 14 = some 249 := by decide +kernel
theorem mw_X11_borrowerOf : MW yX11_borrowerOf cX11_borrowerOf 2 (some .int) 1 := ⟨mG 1636 (by decide +kernel) (by decide +kernel), mG 134 (by decide +kernel) (by decide +kernel), by decide +kernel, ⟨by decide +kernel, by decide +kernel⟩, by decide +kernel, by decide⟩
theorem ml_X11_315 : Cond.methodLink RX11 315 yX11_borrowerOf ∈ lwG := mG 1633 (by decide +kernel) (by decide +kernel)
theorem im_X11_borrowerOf : Cond.instanceMethod yX11_borrowerOf ∈ lwG := mG 1635 (by decide +kernel) (by decide +kernel)
theorem se_X11_borrowerOf : Cond.selects RX11 yX11_borrowerOf yX11_borrowerOf ∈ lwG := mG 79 (by decide +kernel) (by decide +kernel)
theorem mw_X11_ownerOf : MW yX11_ownerOf cX11_ownerOf 2 (some .int) 1 := ⟨mG 1451 (by decide +kernel) (by decide +kernel), mG 134 (by decide +kernel) (by decide +kernel), by decide +kernel, ⟨by decide +kernel, by decide +kernel⟩, by decide +kernel, by decide⟩
theorem ml_X11_160 : Cond.methodLink RX11 160 yX11_ownerOf ∈ lwG := mG 1448 (by decide +kernel) (by decide +kernel)
theorem im_X11_ownerOf : Cond.instanceMethod yX11_ownerOf ∈ lwG := mG 1450 (by decide +kernel) (by decide +kernel)
theorem se_X11_ownerOf : Cond.selects RX11 yX11_ownerOf yX11_ownerOf ∈ lwG := mG 40 (by decide +kernel) (by decide +kernel)
theorem fl_X11_37 : Cond.fieldLink RX11 37 (TX11 14).1 (TX11 14).2.1 (TX11 14).2.2.1 ∈ lwG := mG 1234 (by decide +kernel) (by decide +kernel)
theorem fi_11_14 : fI 11 14 = false := by decide +kernel
theorem zl_249 : 249 < Z1.length := by decide +kernel
theorem zk_249 : sK Z1 249 = (0, 144) := by decide +kernel
theorem fl_X11_157 : Cond.fieldLink RX11 157 (TX11 12).1 (TX11 12).2.1 (TX11 12).2.2.1 ∈ lwG := mG 1232 (by decide +kernel) (by decide +kernel)
theorem fi_11_12 : fI 11 12 = true := by decide +kernel
theorem mw_X11_canWrite : MW yX11_canWrite cX11_canWrite 4 (some .boolean) 2 := ⟨mG 1674 (by decide +kernel) (by decide +kernel), mG 134 (by decide +kernel) (by decide +kernel), by decide +kernel, ⟨by decide +kernel, by decide +kernel⟩, by decide +kernel, by decide⟩
theorem ml_X11_318 : Cond.methodLink RX11 318 yX11_canWrite ∈ lwG := mG 1671 (by decide +kernel) (by decide +kernel)
theorem im_X11_canWrite : Cond.instanceMethod yX11_canWrite ∈ lwG := mG 1673 (by decide +kernel) (by decide +kernel)
theorem se_X11_canWrite : Cond.selects RX11 yX11_canWrite yX11_canWrite ∈ lwG := mG 85 (by decide +kernel) (by decide +kernel)
theorem zl_267 : 267 < Z1.length := by decide +kernel
theorem zk_267 : sK Z1 267 = (0, 12) := by decide +kernel
theorem fl_X11_95 : Cond.fieldLink RX11 95 (TX11 46).1 (TX11 46).2.1 (TX11 46).2.2.1 ∈ lwG := mG 1266 (by decide +kernel) (by decide +kernel)
theorem fi_11_46 : fI 11 46 = false := by decide +kernel
theorem mw_X11_lettersOf : MW yX11_lettersOf cX11_lettersOf 4 (some .int) 1 := ⟨mG 1670 (by decide +kernel) (by decide +kernel), mG 134 (by decide +kernel) (by decide +kernel), by decide +kernel, ⟨by decide +kernel, by decide +kernel⟩, by decide +kernel, by decide⟩
theorem ml_X11_321 : Cond.methodLink RX11 321 yX11_lettersOf ∈ lwG := mG 1667 (by decide +kernel) (by decide +kernel)
theorem im_X11_lettersOf : Cond.instanceMethod yX11_lettersOf ∈ lwG := mG 1669 (by decide +kernel) (by decide +kernel)
theorem se_X11_lettersOf : Cond.selects RX11 yX11_lettersOf yX11_lettersOf ∈ lwG := mG 84 (by decide +kernel) (by decide +kernel)
theorem fl_X11_83 : Cond.fieldLink RX11 83 (TX11 42).1 (TX11 42).2.1 (TX11 42).2.2.1 ∈ lwG := mG 1262 (by decide +kernel) (by decide +kernel)
theorem fi_11_42 : fI 11 42 = false := by decide +kernel
theorem zl_263 : 263 < Z1.length := by decide +kernel
theorem zk_263 : sK Z1 263 = (0, 8) := by decide +kernel
theorem mw_X11_aloneOf : MW yX11_aloneOf cX11_aloneOf 4 (some .int) 1 := ⟨mG 1766 (by decide +kernel) (by decide +kernel), mG 134 (by decide +kernel) (by decide +kernel), by decide +kernel, ⟨by decide +kernel, by decide +kernel⟩, by decide +kernel, by decide⟩
theorem ml_X11_405 : Cond.methodLink RX11 405 yX11_aloneOf ∈ lwG := mG 1763 (by decide +kernel) (by decide +kernel)
theorem im_X11_aloneOf : Cond.instanceMethod yX11_aloneOf ∈ lwG := mG 1765 (by decide +kernel) (by decide +kernel)
theorem se_X11_aloneOf : Cond.selects RX11 yX11_aloneOf yX11_aloneOf ∈ lwG := mG 104 (by decide +kernel) (by decide +kernel)
theorem mw_X11_findsHands : MW yX11_findsHands cX11_findsHands 2 none 0 := ⟨mG 1666 (by decide +kernel) (by decide +kernel), mG 134 (by decide +kernel) (by decide +kernel), by decide +kernel, ⟨by decide +kernel, by decide +kernel⟩, by decide +kernel, by decide⟩
theorem ml_X11_375 : Cond.methodLink RX11 375 yX11_findsHands ∈ lwG := mG 1663 (by decide +kernel) (by decide +kernel)
theorem im_X11_findsHands : Cond.instanceMethod yX11_findsHands ∈ lwG := mG 1665 (by decide +kernel) (by decide +kernel)
theorem se_X11_findsHands : Cond.selects RX11 yX11_findsHands yX11_findsHands ∈ lwG := mG 83 (by decide +kernel) (by decide +kernel)
theorem zr_239_7 : sR Z1 239 7 = some 243 := by decide +kernel
theorem zr_239_8 : sR Z1 239 8 = some 244 := by decide +kernel
theorem kb_112 : (Int8.ofInt (112)).toInt32 = (112 : Int32) := by decide +kernel
theorem fl_X11_19 : Cond.fieldLink RX11 19 (TX11 7).1 (TX11 7).2.1 (TX11 7).2.2.1 ∈ lwG := mG 1227 (by decide +kernel) (by decide +kernel)
theorem fi_11_7 : fI 11 7 = false := by decide +kernel
theorem zl_243 : 243 < Z1.length := by decide +kernel
theorem zk_243 : sK Z1 243 = (0, 12) := by decide +kernel
theorem mw_X11_areNear : MW yX11_areNear cX11_areNear 3 none 2 := ⟨mG 1394 (by decide +kernel) (by decide +kernel), mG 134 (by decide +kernel) (by decide +kernel), by decide +kernel, ⟨by decide +kernel, by decide +kernel⟩, by decide +kernel, by decide⟩
theorem ml_X11_135 : Cond.methodLink RX11 135 yX11_areNear ∈ lwG := mG 1391 (by decide +kernel) (by decide +kernel)
theorem im_X11_areNear : Cond.instanceMethod yX11_areNear ∈ lwG := mG 1393 (by decide +kernel) (by decide +kernel)
theorem se_X11_areNear : Cond.selects RX11 yX11_areNear yX11_areNear ∈ lwG := mG 30 (by decide +kernel) (by decide +kernel)
theorem fl_X11_22 : Cond.fieldLink RX11 22 (TX11 8).1 (TX11 8).2.1 (TX11 8).2.2.1 ∈ lwG := mG 1228 (by decide +kernel) (by decide +kernel)
theorem fi_11_8 : fI 11 8 = false := by decide +kernel
theorem zl_244 : 244 < Z1.length := by decide +kernel
theorem zk_244 : sK Z1 244 = (0, 12) := by decide +kernel
theorem mw_X11_spouseOf : MW yX11_spouseOf cX11_spouseOf 2 (some .int) 1 := ⟨mG 1398 (by decide +kernel) (by decide +kernel), mG 134 (by decide +kernel) (by decide +kernel), by decide +kernel, ⟨by decide +kernel, by decide +kernel⟩, by decide +kernel, by decide⟩
theorem ml_X11_139 : Cond.methodLink RX11 139 yX11_spouseOf ∈ lwG := mG 1395 (by decide +kernel) (by decide +kernel)
theorem im_X11_spouseOf : Cond.instanceMethod yX11_spouseOf ∈ lwG := mG 1397 (by decide +kernel) (by decide +kernel)
theorem se_X11_spouseOf : Cond.selects RX11 yX11_spouseOf yX11_spouseOf ∈ lwG := mG 31 (by decide +kernel) (by decide +kernel)
theorem ks_144 : (Int16.ofInt (144)).toInt32 = (144 : Int32) := by decide +kernel
theorem nz_12 : ¬ (12 : Int32) = 0 := by decide +kernel
theorem mw_X11_findsKin : MW yX11_findsKin cX11_findsKin 5 none 0 := ⟨mG 1390 (by decide +kernel) (by decide +kernel), mG 134 (by decide +kernel) (by decide +kernel), by decide +kernel, ⟨by decide +kernel, by decide +kernel⟩, by decide +kernel, by decide⟩
theorem ml_X11_113 : Cond.methodLink RX11 113 yX11_findsKin ∈ lwG := mG 1387 (by decide +kernel) (by decide +kernel)
theorem im_X11_findsKin : Cond.instanceMethod yX11_findsKin ∈ lwG := mG 1389 (by decide +kernel) (by decide +kernel)
theorem se_X11_findsKin : Cond.selects RX11 yX11_findsKin yX11_findsKin ∈ lwG := mG 29 (by decide +kernel) (by decide +kernel)
theorem mw_X11_spokenDeeds : MW yX11_spokenDeeds cX11_spokenDeeds 3 (some .int) 0 := ⟨mG 1846 (by decide +kernel) (by decide +kernel), mG 134 (by decide +kernel) (by decide +kernel), by decide +kernel, ⟨by decide +kernel, by decide +kernel⟩, by decide +kernel, by decide⟩
theorem ml_X11_435 : Cond.methodLink RX11 435 yX11_spokenDeeds ∈ lwG := mG 1843 (by decide +kernel) (by decide +kernel)
theorem im_X11_spokenDeeds : Cond.instanceMethod yX11_spokenDeeds ∈ lwG := mG 1845 (by decide +kernel) (by decide +kernel)
theorem se_X11_spokenDeeds : Cond.selects RX11 yX11_spokenDeeds yX11_spokenDeeds ∈ lwG := mG 114 (by decide +kernel) (by decide +kernel)
theorem mw_X11_ones : MW yX11_ones cX11_ones 4 (some .int) 1 := ⟨mG 1722 (by decide +kernel) (by decide +kernel), mG 134 (by decide +kernel) (by decide +kernel), by decide +kernel, ⟨by decide +kernel, by decide +kernel⟩, by decide +kernel, by decide⟩
theorem ml_X11_333 : Cond.methodLink RX11 333 yX11_ones ∈ lwG := mG 1719 (by decide +kernel) (by decide +kernel)
theorem im_X11_ones : Cond.instanceMethod yX11_ones ∈ lwG := mG 1721 (by decide +kernel) (by decide +kernel)
theorem se_X11_ones : Cond.selects RX11 yX11_ones yX11_ones ∈ lwG := mG 96 (by decide +kernel) (by decide +kernel)
theorem mw_X11_endsThought : MW yX11_endsThought cX11_endsThought 2 none 0 := ⟨mG 1830 (by decide +kernel) (by decide +kernel), mG 134 (by decide +kernel) (by decide +kernel), by decide +kernel, ⟨by decide +kernel, by decide +kernel⟩, by decide +kernel, by decide⟩
theorem ml_X11_432 : Cond.methodLink RX11 432 yX11_endsThought ∈ lwG := mG 1827 (by decide +kernel) (by decide +kernel)
theorem im_X11_endsThought : Cond.instanceMethod yX11_endsThought ∈ lwG := mG 1829 (by decide +kernel) (by decide +kernel)
theorem se_X11_endsThought : Cond.selects RX11 yX11_endsThought yX11_endsThought ∈ lwG := mG 113 (by decide +kernel) (by decide +kernel)
theorem mw_X11_thinks : MW yX11_thinks cX11_thinks 2 none 0 := ⟨mG 1826 (by decide +kernel) (by decide +kernel), mG 134 (by decide +kernel) (by decide +kernel), by decide +kernel, ⟨by decide +kernel, by decide +kernel⟩, by decide +kernel, by decide⟩
theorem ml_X11_429 : Cond.methodLink RX11 429 yX11_thinks ∈ lwG := mG 1823 (by decide +kernel) (by decide +kernel)
theorem im_X11_thinks : Cond.instanceMethod yX11_thinks ∈ lwG := mG 1825 (by decide +kernel) (by decide +kernel)
theorem se_X11_thinks : Cond.selects RX11 yX11_thinks yX11_thinks ∈ lwG := mG 112 (by decide +kernel) (by decide +kernel)
theorem mw_X11_deedsBy : MW yX11_deedsBy cX11_deedsBy 4 (some .int) 2 := ⟨mG 1858 (by decide +kernel) (by decide +kernel), mG 134 (by decide +kernel) (by decide +kernel), by decide +kernel, ⟨by decide +kernel, by decide +kernel⟩, by decide +kernel, by decide⟩
theorem ml_X11_438 : Cond.methodLink RX11 438 yX11_deedsBy ∈ lwG := mG 1855 (by decide +kernel) (by decide +kernel)
theorem im_X11_deedsBy : Cond.instanceMethod yX11_deedsBy ∈ lwG := mG 1857 (by decide +kernel) (by decide +kernel)
theorem se_X11_deedsBy : Cond.selects RX11 yX11_deedsBy yX11_deedsBy ∈ lwG := mG 115 (by decide +kernel) (by decide +kernel)
theorem mw_X11_isLiving : MW yX11_isLiving cX11_isLiving 2 (some .boolean) 1 := ⟨mG 1431 (by decide +kernel) (by decide +kernel), mG 134 (by decide +kernel) (by decide +kernel), by decide +kernel, ⟨by decide +kernel, by decide +kernel⟩, by decide +kernel, by decide⟩
theorem ml_X11_151 : Cond.methodLink RX11 151 yX11_isLiving ∈ lwG := mG 1428 (by decide +kernel) (by decide +kernel)
theorem im_X11_isLiving : Cond.instanceMethod yX11_isLiving ∈ lwG := mG 1430 (by decide +kernel) (by decide +kernel)
theorem se_X11_isLiving : Cond.selects RX11 yX11_isLiving yX11_isLiving ∈ lwG := mG 36 (by decide +kernel) (by decide +kernel)
theorem zr_239_13 : sR Z1 239 13 = some 248 := by decide +kernel
theorem ib_2_148 : inB (2 : Int32) 148 = true := by decide +kernel
theorem fl_X11_34 : Cond.fieldLink RX11 34 (TX11 13).1 (TX11 13).2.1 (TX11 13).2.2.1 ∈ lwG := mG 1233 (by decide +kernel) (by decide +kernel)
theorem fi_11_13 : fI 11 13 = false := by decide +kernel
theorem zl_248 : 248 < Z1.length := by decide +kernel
theorem zk_248 : sK Z1 248 = (0, 1000) := by decide +kernel
theorem zr_239_2 : sR Z1 239 2 = some 241 := by decide +kernel
theorem fl_X11_110 : Cond.fieldLink RX11 110 (TX11 3).1 (TX11 3).2.1 (TX11 3).2.2.1 ∈ lwG := mG 1223 (by decide +kernel) (by decide +kernel)
theorem fi_11_3 : fI 11 3 = true := by decide +kernel
theorem fl_X11_13 : Cond.fieldLink RX11 13 (TX11 2).1 (TX11 2).2.1 (TX11 2).2.2.1 ∈ lwG := mG 1222 (by decide +kernel) (by decide +kernel)
theorem fi_11_2 : fI 11 2 = false := by decide +kernel
theorem zl_241 : 241 < Z1.length := by decide +kernel
theorem zk_241 : sK Z1 241 = (0, 1184) := by decide +kernel
theorem ib_0_148 : inB (0 : Int32) 148 = true := by decide +kernel
theorem mw_X11_endsLoan : MW yX11_endsLoan cX11_endsLoan 2 none 1 := ⟨mG 1455 (by decide +kernel) (by decide +kernel), mG 134 (by decide +kernel) (by decide +kernel), by decide +kernel, ⟨by decide +kernel, by decide +kernel⟩, by decide +kernel, by decide⟩
theorem ml_X11_170 : Cond.methodLink RX11 170 yX11_endsLoan ∈ lwG := mG 1452 (by decide +kernel) (by decide +kernel)
theorem im_X11_endsLoan : Cond.instanceMethod yX11_endsLoan ∈ lwG := mG 1454 (by decide +kernel) (by decide +kernel)
theorem se_X11_endsLoan : Cond.selects RX11 yX11_endsLoan yX11_endsLoan ∈ lwG := mG 41 (by decide +kernel) (by decide +kernel)
theorem zr_239_10 : sR Z1 239 10 = some 246 := by decide +kernel
theorem con_X11_120 : Cond.constant RX11 120 (1664525) ∈ lwG := mG 1649 (by decide +kernel) (by decide +kernel)
theorem ib_1_148 : inB (1 : Int32) 148 = true := by decide +kernel
theorem con_X11_121 : Cond.constant RX11 121 (1013904223) ∈ lwG := mG 1650 (by decide +kernel) (by decide +kernel)
theorem fl_X11_28 : Cond.fieldLink RX11 28 (TX11 10).1 (TX11 10).2.1 (TX11 10).2.2.1 ∈ lwG := mG 1230 (by decide +kernel) (by decide +kernel)
theorem fi_11_10 : fI 11 10 = false := by decide +kernel
theorem zl_246 : 246 < Z1.length := by decide +kernel
theorem zk_246 : sK Z1 246 = (0, 12) := by decide +kernel
theorem mw_X11_draw : MW yX11_draw cX11_draw 2 (some .int) 1 := ⟨mG 1648 (by decide +kernel) (by decide +kernel), mG 134 (by decide +kernel) (by decide +kernel), by decide +kernel, ⟨by decide +kernel, by decide +kernel⟩, by decide +kernel, by decide⟩
theorem ml_X11_366 : Cond.methodLink RX11 366 yX11_draw ∈ lwG := mG 1645 (by decide +kernel) (by decide +kernel)
theorem im_X11_draw : Cond.instanceMethod yX11_draw ∈ lwG := mG 1647 (by decide +kernel) (by decide +kernel)
theorem se_X11_draw : Cond.selects RX11 yX11_draw yX11_draw ∈ lwG := mG 80 (by decide +kernel) (by decide +kernel)
theorem zr_239_36 : sR Z1 239 36 = some 258 := by decide +kernel
theorem zr_239_37 : sR Z1 239 37 = some 259 := by decide +kernel
theorem zr_239_38 : sR Z1 239 38 = some 260 := by decide +kernel
theorem zr_239_39 : sR Z1 239 39 = some 261 := by decide +kernel
theorem fl_X11_74 : Cond.fieldLink RX11 74 (TX11 38).1 (TX11 38).2.1 (TX11 38).2.2.1 ∈ lwG := mG 1258 (by decide +kernel) (by decide +kernel)
theorem fi_11_38 : fI 11 38 = false := by decide +kernel
theorem zl_260 : 260 < Z1.length := by decide +kernel
theorem zk_260 : sK Z1 260 = (0, 156) := by decide +kernel
theorem fl_X11_68 : Cond.fieldLink RX11 68 (TX11 36).1 (TX11 36).2.1 (TX11 36).2.2.1 ∈ lwG := mG 1256 (by decide +kernel) (by decide +kernel)
theorem fi_11_36 : fI 11 36 = false := by decide +kernel
theorem zl_258 : 258 < Z1.length := by decide +kernel
theorem zk_258 : sK Z1 258 = (0, 12) := by decide +kernel
theorem fl_X11_71 : Cond.fieldLink RX11 71 (TX11 37).1 (TX11 37).2.1 (TX11 37).2.2.1 ∈ lwG := mG 1257 (by decide +kernel) (by decide +kernel)
theorem fi_11_37 : fI 11 37 = false := by decide +kernel
theorem zl_259 : 259 < Z1.length := by decide +kernel
theorem zk_259 : sK Z1 259 = (0, 156) := by decide +kernel
theorem fl_X11_77 : Cond.fieldLink RX11 77 (TX11 39).1 (TX11 39).2.1 (TX11 39).2.2.1 ∈ lwG := mG 1259 (by decide +kernel) (by decide +kernel)
theorem fi_11_39 : fI 11 39 = false := by decide +kernel
theorem zl_261 : 261 < Z1.length := by decide +kernel
theorem zk_261 : sK Z1 261 = (0, 156) := by decide +kernel
theorem zr_239_44 : sR Z1 239 44 = some 265 := by decide +kernel
theorem zr_239_9 : sR Z1 239 9 = some 245 := by decide +kernel
theorem zr_239_11 : sR Z1 239 11 = some 247 := by decide +kernel
theorem zr_239_24 : sR Z1 239 24 = some 253 := by decide +kernel
theorem zr_239_23 : sR Z1 239 23 = some 252 := by decide +kernel
theorem zr_239_25 : sR Z1 239 25 = some 254 := by decide +kernel
theorem zr_239_26 : sR Z1 239 26 = some 255 := by decide +kernel
theorem zr_239_45 : sR Z1 239 45 = some 266 := by decide +kernel
theorem zr_239_27 : sR Z1 239 27 = some 256 := by decide +kernel
theorem zl_266 : 266 < Z1.length := by decide +kernel
theorem zk_266 : sK Z1 266 = (0, 420) := by decide +kernel
theorem fl_X11_92 : Cond.fieldLink RX11 92 (TX11 45).1 (TX11 45).2.1 (TX11 45).2.2.1 ∈ lwG := mG 1265 (by decide +kernel) (by decide +kernel)
theorem fi_11_45 : fI 11 45 = false := by decide +kernel
theorem fl_X11_55 : Cond.fieldLink RX11 55 (TX11 26).1 (TX11 26).2.1 (TX11 26).2.2.1 ∈ lwG := mG 1246 (by decide +kernel) (by decide +kernel)
theorem fi_11_26 : fI 11 26 = false := by decide +kernel
theorem zl_255 : 255 < Z1.length := by decide +kernel
theorem zk_255 : sK Z1 255 = (0, 800) := by decide +kernel
theorem fl_X11_58 : Cond.fieldLink RX11 58 (TX11 27).1 (TX11 27).2.1 (TX11 27).2.2.1 ∈ lwG := mG 1247 (by decide +kernel) (by decide +kernel)
theorem fi_11_27 : fI 11 27 = false := by decide +kernel
theorem zl_256 : 256 < Z1.length := by decide +kernel
theorem zk_256 : sK Z1 256 = (0, 800) := by decide +kernel
theorem fl_X11_89 : Cond.fieldLink RX11 89 (TX11 44).1 (TX11 44).2.1 (TX11 44).2.2.1 ∈ lwG := mG 1264 (by decide +kernel) (by decide +kernel)
theorem fi_11_44 : fI 11 44 = false := by decide +kernel
theorem zl_265 : 265 < Z1.length := by decide +kernel
theorem zk_265 : sK Z1 265 = (0, 10) := by decide +kernel
theorem ib_0_420 : inB (0 : Int32) 420 = true := by decide +kernel
theorem mw_X11_twoOf : MW yX11_twoOf cX11_twoOf 4 (some .int) 3 := ⟨mG 1734 (by decide +kernel) (by decide +kernel), mG 134 (by decide +kernel) (by decide +kernel), by decide +kernel, ⟨by decide +kernel, by decide +kernel⟩, by decide +kernel, by decide⟩
theorem ml_X11_308 : Cond.methodLink RX11 308 yX11_twoOf ∈ lwG := mG 1731 (by decide +kernel) (by decide +kernel)
theorem im_X11_twoOf : Cond.instanceMethod yX11_twoOf ∈ lwG := mG 1733 (by decide +kernel) (by decide +kernel)
theorem se_X11_twoOf : Cond.selects RX11 yX11_twoOf yX11_twoOf ∈ lwG := mG 99 (by decide +kernel) (by decide +kernel)
theorem fl_X11_46 : Cond.fieldLink RX11 46 (TX11 23).1 (TX11 23).2.1 (TX11 23).2.2.1 ∈ lwG := mG 1243 (by decide +kernel) (by decide +kernel)
theorem fi_11_23 : fI 11 23 = false := by decide +kernel
theorem zl_252 : 252 < Z1.length := by decide +kernel
theorem zk_252 : sK Z1 252 = (0, 32) := by decide +kernel
theorem fl_X11_52 : Cond.fieldLink RX11 52 (TX11 25).1 (TX11 25).2.1 (TX11 25).2.2.1 ∈ lwG := mG 1245 (by decide +kernel) (by decide +kernel)
theorem fi_11_25 : fI 11 25 = false := by decide +kernel
theorem zl_254 : 254 < Z1.length := by decide +kernel
theorem zk_254 : sK Z1 254 = (0, 32) := by decide +kernel
theorem mw_X11_runs : MW yX11_runs cX11_runs 5 (some .int) 2 := ⟨mG 1730 (by decide +kernel) (by decide +kernel), mG 134 (by decide +kernel) (by decide +kernel), by decide +kernel, ⟨by decide +kernel, by decide +kernel⟩, by decide +kernel, by decide⟩
theorem ml_X11_312 : Cond.methodLink RX11 312 yX11_runs ∈ lwG := mG 1727 (by decide +kernel) (by decide +kernel)
theorem im_X11_runs : Cond.instanceMethod yX11_runs ∈ lwG := mG 1729 (by decide +kernel) (by decide +kernel)
theorem se_X11_runs : Cond.selects RX11 yX11_runs yX11_runs ∈ lwG := mG 98 (by decide +kernel) (by decide +kernel)
theorem fl_X11_260 : Cond.fieldLink RX11 260 (TX11 22).1 (TX11 22).2.1 (TX11 22).2.2.1 ∈ lwG := mG 1242 (by decide +kernel) (by decide +kernel)
theorem fi_11_22 : fI 11 22 = true := by decide +kernel
theorem mw_X11_isSo : MW yX11_isSo cX11_isSo 2 (some .boolean) 1 := ⟨mG 1726 (by decide +kernel) (by decide +kernel), mG 134 (by decide +kernel) (by decide +kernel), by decide +kernel, ⟨by decide +kernel, by decide +kernel⟩, by decide +kernel, by decide⟩
theorem ml_X11_336 : Cond.methodLink RX11 336 yX11_isSo ∈ lwG := mG 1723 (by decide +kernel) (by decide +kernel)
theorem im_X11_isSo : Cond.instanceMethod yX11_isSo ∈ lwG := mG 1725 (by decide +kernel) (by decide +kernel)
theorem se_X11_isSo : Cond.selects RX11 yX11_isSo yX11_isSo ∈ lwG := mG 97 (by decide +kernel) (by decide +kernel)
theorem fl_X11_49 : Cond.fieldLink RX11 49 (TX11 24).1 (TX11 24).2.1 (TX11 24).2.2.1 ∈ lwG := mG 1244 (by decide +kernel) (by decide +kernel)
theorem fi_11_24 : fI 11 24 = false := by decide +kernel
theorem zl_253 : 253 < Z1.length := by decide +kernel
theorem zk_253 : sK Z1 253 = (0, 32) := by decide +kernel
theorem mw_X11_ownedBy : MW yX11_ownedBy cX11_ownedBy 4 (some .int) 1 := ⟨mG 1718 (by decide +kernel) (by decide +kernel), mG 134 (by decide +kernel) (by decide +kernel), by decide +kernel, ⟨by decide +kernel, by decide +kernel⟩, by decide +kernel, by decide⟩
theorem ml_X11_330 : Cond.methodLink RX11 330 yX11_ownedBy ∈ lwG := mG 1715 (by decide +kernel) (by decide +kernel)
theorem im_X11_ownedBy : Cond.instanceMethod yX11_ownedBy ∈ lwG := mG 1717 (by decide +kernel) (by decide +kernel)
theorem se_X11_ownedBy : Cond.selects RX11 yX11_ownedBy yX11_ownedBy ∈ lwG := mG 95 (by decide +kernel) (by decide +kernel)
theorem fl_X11_31 : Cond.fieldLink RX11 31 (TX11 11).1 (TX11 11).2.1 (TX11 11).2.2.1 ∈ lwG := mG 1231 (by decide +kernel) (by decide +kernel)
theorem fi_11_11 : fI 11 11 = false := by decide +kernel
theorem zl_247 : 247 < Z1.length := by decide +kernel
theorem zk_247 : sK Z1 247 = (0, 12) := by decide +kernel
theorem fl_X11_25 : Cond.fieldLink RX11 25 (TX11 9).1 (TX11 9).2.1 (TX11 9).2.2.1 ∈ lwG := mG 1229 (by decide +kernel) (by decide +kernel)
theorem fi_11_9 : fI 11 9 = false := by decide +kernel
theorem zl_245 : 245 < Z1.length := by decide +kernel
theorem zk_245 : sK Z1 245 = (0, 12) := by decide +kernel
theorem mw_X11_isChild : MW yX11_isChild cX11_isChild 3 (some .boolean) 2 := ⟨mG 1608 (by decide +kernel) (by decide +kernel), mG 134 (by decide +kernel) (by decide +kernel), by decide +kernel, ⟨by decide +kernel, by decide +kernel⟩, by decide +kernel, by decide⟩
theorem ml_X11_327 : Cond.methodLink RX11 327 yX11_isChild ∈ lwG := mG 1605 (by decide +kernel) (by decide +kernel)
theorem im_X11_isChild : Cond.instanceMethod yX11_isChild ∈ lwG := mG 1607 (by decide +kernel) (by decide +kernel)
theorem se_X11_isChild : Cond.selects RX11 yX11_isChild yX11_isChild ∈ lwG := mG 74 (by decide +kernel) (by decide +kernel)
theorem mw_X11_isVowel : MW yX11_isVowel cX11_isVowel 2 (some .boolean) 1 := ⟨mG 1714 (by decide +kernel) (by decide +kernel), mG 134 (by decide +kernel) (by decide +kernel), by decide +kernel, ⟨by decide +kernel, by decide +kernel⟩, by decide +kernel, by decide⟩
theorem ml_X11_324 : Cond.methodLink RX11 324 yX11_isVowel ∈ lwG := mG 1711 (by decide +kernel) (by decide +kernel)
theorem im_X11_isVowel : Cond.instanceMethod yX11_isVowel ∈ lwG := mG 1713 (by decide +kernel) (by decide +kernel)
theorem se_X11_isVowel : Cond.selects RX11 yX11_isVowel yX11_isVowel ∈ lwG := mG 94 (by decide +kernel) (by decide +kernel)
theorem mw_X11_worthOf : MW yX11_worthOf cX11_worthOf 5 (some .int) 3 := ⟨mG 1710 (by decide +kernel) (by decide +kernel), mG 134 (by decide +kernel) (by decide +kernel), by decide +kernel, ⟨by decide +kernel, by decide +kernel⟩, by decide +kernel, by decide⟩
theorem ml_X11_339 : Cond.methodLink RX11 339 yX11_worthOf ∈ lwG := mG 1707 (by decide +kernel) (by decide +kernel)
theorem im_X11_worthOf : Cond.instanceMethod yX11_worthOf ∈ lwG := mG 1709 (by decide +kernel) (by decide +kernel)
theorem se_X11_worthOf : Cond.selects RX11 yX11_worthOf yX11_worthOf ∈ lwG := mG 93 (by decide +kernel) (by decide +kernel)
theorem mw_X11_comesTo : MW yX11_comesTo cX11_comesTo 6 none 3 := ⟨mG 1447 (by decide +kernel) (by decide +kernel), mG 134 (by decide +kernel) (by decide +kernel), by decide +kernel, ⟨by decide +kernel, by decide +kernel⟩, by decide +kernel, by decide⟩
theorem ml_X11_166 : Cond.methodLink RX11 166 yX11_comesTo ∈ lwG := mG 1444 (by decide +kernel) (by decide +kernel)
theorem im_X11_comesTo : Cond.instanceMethod yX11_comesTo ∈ lwG := mG 1446 (by decide +kernel) (by decide +kernel)
theorem se_X11_comesTo : Cond.selects RX11 yX11_comesTo yX11_comesTo ∈ lwG := mG 39 (by decide +kernel) (by decide +kernel)
theorem mw_X11_heirByLaw : MW yX11_heirByLaw cX11_heirByLaw 7 (some .int) 2 := ⟨mG 1706 (by decide +kernel) (by decide +kernel), mG 134 (by decide +kernel) (by decide +kernel), by decide +kernel, ⟨by decide +kernel, by decide +kernel⟩, by decide +kernel, by decide⟩
theorem ml_X11_348 : Cond.methodLink RX11 348 yX11_heirByLaw ∈ lwG := mG 1703 (by decide +kernel) (by decide +kernel)
theorem im_X11_heirByLaw : Cond.instanceMethod yX11_heirByLaw ∈ lwG := mG 1705 (by decide +kernel) (by decide +kernel)
theorem se_X11_heirByLaw : Cond.selects RX11 yX11_heirByLaw yX11_heirByLaw ∈ lwG := mG 92 (by decide +kernel) (by decide +kernel)
theorem fl_X11_98 : Cond.fieldLink RX11 98 (TX11 47).1 (TX11 47).2.1 (TX11 47).2.2.1 ∈ lwG := mG 1267 (by decide +kernel) (by decide +kernel)
theorem fi_11_47 : fI 11 47 = true := by decide +kernel
theorem fl_X11_345 : Cond.fieldLink RX11 345 (TX11 48).1 (TX11 48).2.1 (TX11 48).2.2.1 ∈ lwG := mG 1268 (by decide +kernel) (by decide +kernel)
theorem fi_11_48 : fI 11 48 = true := by decide +kernel
theorem mw_X11_heirByWill : MW yX11_heirByWill cX11_heirByWill 5 (some .int) 2 := ⟨mG 1702 (by decide +kernel) (by decide +kernel), mG 134 (by decide +kernel) (by decide +kernel), by decide +kernel, ⟨by decide +kernel, by decide +kernel⟩, by decide +kernel, by decide⟩
theorem ml_X11_342 : Cond.methodLink RX11 342 yX11_heirByWill ∈ lwG := mG 1699 (by decide +kernel) (by decide +kernel)
theorem im_X11_heirByWill : Cond.instanceMethod yX11_heirByWill ∈ lwG := mG 1701 (by decide +kernel) (by decide +kernel)
theorem se_X11_heirByWill : Cond.selects RX11 yX11_heirByWill yX11_heirByWill ∈ lwG := mG 91 (by decide +kernel) (by decide +kernel)
theorem kb_88 : (Int8.ofInt (88)).toInt32 = (88 : Int32) := by decide +kernel
theorem mw_X11_isDead : MW yX11_isDead cX11_isDead 5 none 1 := ⟨mG 1698 (by decide +kernel) (by decide +kernel), mG 134 (by decide +kernel) (by decide +kernel), by decide +kernel, ⟨by decide +kernel, by decide +kernel⟩, by decide +kernel, by decide⟩
theorem ml_X11_387 : Cond.methodLink RX11 387 yX11_isDead ∈ lwG := mG 1695 (by decide +kernel) (by decide +kernel)
theorem im_X11_isDead : Cond.instanceMethod yX11_isDead ∈ lwG := mG 1697 (by decide +kernel) (by decide +kernel)
theorem se_X11_isDead : Cond.selects RX11 yX11_isDead yX11_isDead ∈ lwG := mG 90 (by decide +kernel) (by decide +kernel)
theorem mw_X11_isFrailToday : MW yX11_isFrailToday cX11_isFrailToday 2 (some .boolean) 1 := ⟨mG 1694 (by decide +kernel) (by decide +kernel), mG 134 (by decide +kernel) (by decide +kernel), by decide +kernel, ⟨by decide +kernel, by decide +kernel⟩, by decide +kernel, by decide⟩
theorem ml_X11_384 : Cond.methodLink RX11 384 yX11_isFrailToday ∈ lwG := mG 1691 (by decide +kernel) (by decide +kernel)
theorem im_X11_isFrailToday : Cond.instanceMethod yX11_isFrailToday ∈ lwG := mG 1693 (by decide +kernel) (by decide +kernel)
theorem se_X11_isFrailToday : Cond.selects RX11 yX11_isFrailToday yX11_isFrailToday ∈ lwG := mG 89 (by decide +kernel) (by decide +kernel)
theorem mw_X11_endsLoans : MW yX11_endsLoans cX11_endsLoans 2 none 0 := ⟨mG 1690 (by decide +kernel) (by decide +kernel), mG 134 (by decide +kernel) (by decide +kernel), by decide +kernel, ⟨by decide +kernel, by decide +kernel⟩, by decide +kernel, by decide⟩
theorem ml_X11_381 : Cond.methodLink RX11 381 yX11_endsLoans ∈ lwG := mG 1687 (by decide +kernel) (by decide +kernel)
theorem im_X11_endsLoans : Cond.instanceMethod yX11_endsLoans ∈ lwG := mG 1689 (by decide +kernel) (by decide +kernel)
theorem se_X11_endsLoans : Cond.selects RX11 yX11_endsLoans yX11_endsLoans ∈ lwG := mG 88 (by decide +kernel) (by decide +kernel)
theorem mw_X11_keepsAhead : MW yX11_keepsAhead cX11_keepsAhead 2 none 0 := ⟨mG 1616 (by decide +kernel) (by decide +kernel), mG 134 (by decide +kernel) (by decide +kernel), by decide +kernel, ⟨by decide +kernel, by decide +kernel⟩, by decide +kernel, by decide⟩
theorem ml_X11_357 : Cond.methodLink RX11 357 yX11_keepsAhead ∈ lwG := mG 1613 (by decide +kernel) (by decide +kernel)
theorem im_X11_keepsAhead : Cond.instanceMethod yX11_keepsAhead ∈ lwG := mG 1615 (by decide +kernel) (by decide +kernel)
theorem se_X11_keepsAhead : Cond.selects RX11 yX11_keepsAhead yX11_keepsAhead ∈ lwG := mG 76 (by decide +kernel) (by decide +kernel)
theorem mw_X11_ends : MW yX11_ends cX11_ends 4 (some .int) 0 := ⟨mG 1686 (by decide +kernel) (by decide +kernel), mG 134 (by decide +kernel) (by decide +kernel), by decide +kernel, ⟨by decide +kernel, by decide +kernel⟩, by decide +kernel, by decide⟩
theorem ml_X11_390 : Cond.methodLink RX11 390 yX11_ends ∈ lwG := mG 1683 (by decide +kernel) (by decide +kernel)
theorem im_X11_ends : Cond.instanceMethod yX11_ends ∈ lwG := mG 1685 (by decide +kernel) (by decide +kernel)
theorem se_X11_ends : Cond.selects RX11 yX11_ends yX11_ends ∈ lwG := mG 87 (by decide +kernel) (by decide +kernel)
theorem mw_X11_handOf : MW yX11_handOf cX11_handOf 4 (some .int) 1 := ⟨mG 1678 (by decide +kernel) (by decide +kernel), mG 134 (by decide +kernel) (by decide +kernel), by decide +kernel, ⟨by decide +kernel, by decide +kernel⟩, by decide +kernel, by decide⟩
theorem ml_X11_378 : Cond.methodLink RX11 378 yX11_handOf ∈ lwG := mG 1675 (by decide +kernel) (by decide +kernel)
theorem im_X11_handOf : Cond.instanceMethod yX11_handOf ∈ lwG := mG 1677 (by decide +kernel) (by decide +kernel)
theorem se_X11_handOf : Cond.selects RX11 yX11_handOf yX11_handOf ∈ lwG := mG 86 (by decide +kernel) (by decide +kernel)
theorem mw_X11_livingOnes : MW yX11_livingOnes cX11_livingOnes 1 (some .int) 0 := ⟨mG 1782 (by decide +kernel) (by decide +kernel), mG 134 (by decide +kernel) (by decide +kernel), by decide +kernel, ⟨by decide +kernel, by decide +kernel⟩, by decide +kernel, by decide⟩
theorem ml_X11_411 : Cond.methodLink RX11 411 yX11_livingOnes ∈ lwG := mG 1779 (by decide +kernel) (by decide +kernel)
theorem im_X11_livingOnes : Cond.instanceMethod yX11_livingOnes ∈ lwG := mG 1781 (by decide +kernel) (by decide +kernel)
theorem se_X11_livingOnes : Cond.selects RX11 yX11_livingOnes yX11_livingOnes ∈ lwG := mG 107 (by decide +kernel) (by decide +kernel)
theorem kb_124 : (Int8.ofInt (124)).toInt32 = (124 : Int32) := by decide +kernel
theorem ks_132 : (Int16.ofInt (132)).toInt32 = (132 : Int32) := by decide +kernel
theorem ks_140 : (Int16.ofInt (140)).toInt32 = (140 : Int32) := by decide +kernel
theorem mw_X11_signersOf : MW yX11_signersOf cX11_signersOf 4 (some .int) 1 := ⟨mG 1774 (by decide +kernel) (by decide +kernel), mG 134 (by decide +kernel) (by decide +kernel), by decide +kernel, ⟨by decide +kernel, by decide +kernel⟩, by decide +kernel, by decide⟩
theorem ml_X11_402 : Cond.methodLink RX11 402 yX11_signersOf ∈ lwG := mG 1771 (by decide +kernel) (by decide +kernel)
theorem im_X11_signersOf : Cond.instanceMethod yX11_signersOf ∈ lwG := mG 1773 (by decide +kernel) (by decide +kernel)
theorem se_X11_signersOf : Cond.selects RX11 yX11_signersOf yX11_signersOf ∈ lwG := mG 105 (by decide +kernel) (by decide +kernel)
theorem mw_X11_neededFor : MW yX11_neededFor cX11_neededFor 5 (some .int) 1 := ⟨mG 1778 (by decide +kernel) (by decide +kernel), mG 134 (by decide +kernel) (by decide +kernel), by decide +kernel, ⟨by decide +kernel, by decide +kernel⟩, by decide +kernel, by decide⟩
theorem ml_X11_408 : Cond.methodLink RX11 408 yX11_neededFor ∈ lwG := mG 1775 (by decide +kernel) (by decide +kernel)
theorem im_X11_neededFor : Cond.instanceMethod yX11_neededFor ∈ lwG := mG 1777 (by decide +kernel) (by decide +kernel)
theorem se_X11_neededFor : Cond.selects RX11 yX11_neededFor yX11_neededFor ∈ lwG := mG 106 (by decide +kernel) (by decide +kernel)
theorem mw_X11_isLetter28 : MW yX11_isLetter28 cX11_isLetter28 2 (some .boolean) 1 := ⟨mG 1443 (by decide +kernel) (by decide +kernel), mG 134 (by decide +kernel) (by decide +kernel), by decide +kernel, ⟨by decide +kernel, by decide +kernel⟩, by decide +kernel, by decide⟩
theorem ml_X11_163 : Cond.methodLink RX11 163 yX11_isLetter28 ∈ lwG := mG 1440 (by decide +kernel) (by decide +kernel)
theorem im_X11_isLetter28 : Cond.instanceMethod yX11_isLetter28 ∈ lwG := mG 1442 (by decide +kernel) (by decide +kernel)
theorem se_X11_isLetter28 : Cond.selects RX11 yX11_isLetter28 yX11_isLetter28 ∈ lwG := mG 38 (by decide +kernel) (by decide +kernel)
theorem fl_X11_174 : Cond.fieldLink RX11 174 (TX11 16).1 (TX11 16).2.1 (TX11 16).2.2.1 ∈ lwG := mG 1236 (by decide +kernel) (by decide +kernel)
theorem fi_11_16 : fI 11 16 = true := by decide +kernel
theorem fl_X11_289 : Cond.fieldLink RX11 289 (TX11 34).1 (TX11 34).2.1 (TX11 34).2.2.1 ∈ lwG := mG 1254 (by decide +kernel) (by decide +kernel)
theorem fi_11_34 : fI 11 34 = true := by decide +kernel
theorem fl_X11_64 : Cond.fieldLink RX11 64 (TX11 35).1 (TX11 35).2.1 (TX11 35).2.2.1 ∈ lwG := mG 1255 (by decide +kernel) (by decide +kernel)
theorem fi_11_35 : fI 11 35 = true := by decide +kernel
theorem zr_239_15 : sR Z1 239 15 = some 250 := by decide +kernel
theorem fl_X11_40 : Cond.fieldLink RX11 40 (TX11 15).1 (TX11 15).2.1 (TX11 15).2.2.1 ∈ lwG := mG 1235 (by decide +kernel) (by decide +kernel)
theorem fi_11_15 : fI 11 15 = false := by decide +kernel
theorem zl_250 : 250 < Z1.length := by decide +kernel
theorem zk_250 : sK Z1 250 = (0, 400) := by decide +kernel
theorem ks_380 : (Int16.ofInt (380)).toInt32 = (380 : Int32) := by decide +kernel
theorem mw_X11_types : MW yX11_types cX11_types 3 none 1 := ⟨mG 1463 (by decide +kernel) (by decide +kernel), mG 134 (by decide +kernel) (by decide +kernel), by decide +kernel, ⟨by decide +kernel, by decide +kernel⟩, by decide +kernel, by decide⟩
theorem ml_X11_177 : Cond.methodLink RX11 177 yX11_types ∈ lwG := mG 1460 (by decide +kernel) (by decide +kernel)
theorem im_X11_types : Cond.instanceMethod yX11_types ∈ lwG := mG 1462 (by decide +kernel) (by decide +kernel)
theorem se_X11_types : Cond.selects RX11 yX11_types yX11_types ∈ lwG := mG 42 (by decide +kernel) (by decide +kernel)
theorem mw_X11_canGo : MW yX11_canGo cX11_canGo 4 (some .boolean) 2 := ⟨mG 1632 (by decide +kernel) (by decide +kernel), mG 134 (by decide +kernel) (by decide +kernel), by decide +kernel, ⟨by decide +kernel, by decide +kernel⟩, by decide +kernel, by decide⟩
theorem ml_X11_363 : Cond.methodLink RX11 363 yX11_canGo ∈ lwG := mG 1629 (by decide +kernel) (by decide +kernel)
theorem im_X11_canGo : Cond.instanceMethod yX11_canGo ∈ lwG := mG 1631 (by decide +kernel) (by decide +kernel)
theorem se_X11_canGo : Cond.selects RX11 yX11_canGo yX11_canGo ∈ lwG := mG 78 (by decide +kernel) (by decide +kernel)
theorem con_X11_269 : Cond.constant RX11 269 (268435455) ∈ lwG := mG 1572 (by decide +kernel) (by decide +kernel)
theorem zr_239_53 : sR Z1 239 53 = some 269 := by decide +kernel
theorem fl_X11_441 : Cond.fieldLink RX11 441 (TX11 52).1 (TX11 52).2.1 (TX11 52).2.2.1 ∈ lwG := mG 1272 (by decide +kernel) (by decide +kernel)
theorem fi_11_52 : fI 11 52 = true := by decide +kernel
theorem fl_X11_444 : Cond.fieldLink RX11 444 (TX11 50).1 (TX11 50).2.1 (TX11 50).2.2.1 ∈ lwG := mG 1270 (by decide +kernel) (by decide +kernel)
theorem fi_11_50 : fI 11 50 = true := by decide +kernel
theorem fl_X11_104 : Cond.fieldLink RX11 104 (TX11 53).1 (TX11 53).2.1 (TX11 53).2.2.1 ∈ lwG := mG 1273 (by decide +kernel) (by decide +kernel)
theorem fi_11_53 : fI 11 53 = false := by decide +kernel
theorem zl_269 : 269 < Z1.length := by decide +kernel
theorem zk_269 : sK Z1 269 = (0, 3200) := by decide +kernel
theorem mw_X11_kept : MW yX11_kept cX11_kept 2 (some .int) 1 := ⟨mG 1866 (by decide +kernel) (by decide +kernel), mG 134 (by decide +kernel) (by decide +kernel), by decide +kernel, ⟨by decide +kernel, by decide +kernel⟩, by decide +kernel, by decide⟩
theorem ml_X11_447 : Cond.methodLink RX11 447 yX11_kept ∈ lwG := mG 1863 (by decide +kernel) (by decide +kernel)
theorem im_X11_kept : Cond.instanceMethod yX11_kept ∈ lwG := mG 1865 (by decide +kernel) (by decide +kernel)
theorem se_X11_kept : Cond.selects RX11 yX11_kept yX11_kept ∈ lwG := mG 116 (by decide +kernel) (by decide +kernel)
theorem ks_320 : (Int16.ofInt (320)).toInt32 = (320 : Int32) := by decide +kernel
theorem ks_1000 : (Int16.ofInt (1000)).toInt32 = (1000 : Int32) := by decide +kernel
theorem mw_X11_keepsLaw : MW yX11_keepsLaw cX11_keepsLaw 2 none 0 := ⟨mG 1878 (by decide +kernel) (by decide +kernel), mG 134 (by decide +kernel) (by decide +kernel), by decide +kernel, ⟨by decide +kernel, by decide +kernel⟩, by decide +kernel, by decide⟩
theorem ml_X11_459 : Cond.methodLink RX11 459 yX11_keepsLaw ∈ lwG := mG 1875 (by decide +kernel) (by decide +kernel)
theorem im_X11_keepsLaw : Cond.instanceMethod yX11_keepsLaw ∈ lwG := mG 1877 (by decide +kernel) (by decide +kernel)
theorem se_X11_keepsLaw : Cond.selects RX11 yX11_keepsLaw yX11_keepsLaw ∈ lwG := mG 119 (by decide +kernel) (by decide +kernel)
theorem mw_X11_keepsPeople : MW yX11_keepsPeople cX11_keepsPeople 2 none 0 := ⟨mG 1870 (by decide +kernel) (by decide +kernel), mG 134 (by decide +kernel) (by decide +kernel), by decide +kernel, ⟨by decide +kernel, by decide +kernel⟩, by decide +kernel, by decide⟩
theorem ml_X11_453 : Cond.methodLink RX11 453 yX11_keepsPeople ∈ lwG := mG 1867 (by decide +kernel) (by decide +kernel)
theorem im_X11_keepsPeople : Cond.instanceMethod yX11_keepsPeople ∈ lwG := mG 1869 (by decide +kernel) (by decide +kernel)
theorem se_X11_keepsPeople : Cond.selects RX11 yX11_keepsPeople yX11_keepsPeople ∈ lwG := mG 117 (by decide +kernel) (by decide +kernel)
theorem mw_X11_keepsDeeds : MW yX11_keepsDeeds cX11_keepsDeeds 2 none 0 := ⟨mG 1874 (by decide +kernel) (by decide +kernel), mG 134 (by decide +kernel) (by decide +kernel), by decide +kernel, ⟨by decide +kernel, by decide +kernel⟩, by decide +kernel, by decide⟩
theorem ml_X11_456 : Cond.methodLink RX11 456 yX11_keepsDeeds ∈ lwG := mG 1871 (by decide +kernel) (by decide +kernel)
theorem im_X11_keepsDeeds : Cond.instanceMethod yX11_keepsDeeds ∈ lwG := mG 1873 (by decide +kernel) (by decide +kernel)
theorem se_X11_keepsDeeds : Cond.selects RX11 yX11_keepsDeeds yX11_keepsDeeds ∈ lwG := mG 118 (by decide +kernel) (by decide +kernel)
theorem fl_X11_450 : Cond.fieldLink RX11 450 (TX11 51).1 (TX11 51).2.1 (TX11 51).2.2.1 ∈ lwG := mG 1271 (by decide +kernel) (by decide +kernel)
theorem fi_11_51 : fI 11 51 = true := by decide +kernel
theorem con_X11_146 : Cond.constant RX11 146 (99999) ∈ lwG := mG 1415 (by decide +kernel) (by decide +kernel)
theorem mw_X11_aloneCount : MW yX11_aloneCount cX11_aloneCount 3 (some .int) 0 := ⟨mG 1762 (by decide +kernel) (by decide +kernel), mG 134 (by decide +kernel) (by decide +kernel), by decide +kernel, ⟨by decide +kernel, by decide +kernel⟩, by decide +kernel, by decide⟩
theorem ml_X11_414 : Cond.methodLink RX11 414 yX11_aloneCount ∈ lwG := mG 1759 (by decide +kernel) (by decide +kernel)
theorem im_X11_aloneCount : Cond.instanceMethod yX11_aloneCount ∈ lwG := mG 1761 (by decide +kernel) (by decide +kernel)
theorem se_X11_aloneCount : Cond.selects RX11 yX11_aloneCount yX11_aloneCount ∈ lwG := mG 103 (by decide +kernel) (by decide +kernel)
theorem mw_X11_writersOf : MW yX11_writersOf cX11_writersOf 4 (some .int) 1 := ⟨mG 1750 (by decide +kernel) (by decide +kernel), mG 134 (by decide +kernel) (by decide +kernel), by decide +kernel, ⟨by decide +kernel, by decide +kernel⟩, by decide +kernel, by decide⟩
theorem ml_X11_393 : Cond.methodLink RX11 393 yX11_writersOf ∈ lwG := mG 1747 (by decide +kernel) (by decide +kernel)
theorem im_X11_writersOf : Cond.instanceMethod yX11_writersOf ∈ lwG := mG 1749 (by decide +kernel) (by decide +kernel)
theorem se_X11_writersOf : Cond.selects RX11 yX11_writersOf yX11_writersOf ∈ lwG := mG 100 (by decide +kernel) (by decide +kernel)
theorem mw_X11_changesOf : MW yX11_changesOf cX11_changesOf 4 (some .int) 1 := ⟨mG 1754 (by decide +kernel) (by decide +kernel), mG 134 (by decide +kernel) (by decide +kernel), by decide +kernel, ⟨by decide +kernel, by decide +kernel⟩, by decide +kernel, by decide⟩
theorem ml_X11_396 : Cond.methodLink RX11 396 yX11_changesOf ∈ lwG := mG 1751 (by decide +kernel) (by decide +kernel)
theorem im_X11_changesOf : Cond.instanceMethod yX11_changesOf ∈ lwG := mG 1753 (by decide +kernel) (by decide +kernel)
theorem se_X11_changesOf : Cond.selects RX11 yX11_changesOf yX11_changesOf ∈ lwG := mG 101 (by decide +kernel) (by decide +kernel)
theorem mw_X11_valueOf : MW yX11_valueOf cX11_valueOf 5 (some .int) 1 := ⟨mG 1758 (by decide +kernel) (by decide +kernel), mG 134 (by decide +kernel) (by decide +kernel), by decide +kernel, ⟨by decide +kernel, by decide +kernel⟩, by decide +kernel, by decide⟩
theorem ml_X11_399 : Cond.methodLink RX11 399 yX11_valueOf ∈ lwG := mG 1755 (by decide +kernel) (by decide +kernel)
theorem im_X11_valueOf : Cond.instanceMethod yX11_valueOf ∈ lwG := mG 1757 (by decide +kernel) (by decide +kernel)
theorem se_X11_valueOf : Cond.selects RX11 yX11_valueOf yX11_valueOf ∈ lwG := mG 102 (by decide +kernel) (by decide +kernel)
theorem mw_X11_lettersWithout : MW yX11_lettersWithout cX11_lettersWithout 3 (some .int) 0 := ⟨mG 1886 (by decide +kernel) (by decide +kernel), mG 134 (by decide +kernel) (by decide +kernel), by decide +kernel, ⟨by decide +kernel, by decide +kernel⟩, by decide +kernel, by decide⟩
theorem ml_X11_462 : Cond.methodLink RX11 462 yX11_lettersWithout ∈ lwG := mG 1883 (by decide +kernel) (by decide +kernel)
theorem im_X11_lettersWithout : Cond.instanceMethod yX11_lettersWithout ∈ lwG := mG 1885 (by decide +kernel) (by decide +kernel)
theorem se_X11_lettersWithout : Cond.selects RX11 yX11_lettersWithout yX11_lettersWithout ∈ lwG := mG 120 (by decide +kernel) (by decide +kernel)
theorem mw_X11_loans : MW yX11_loans cX11_loans 3 (some .int) 0 := ⟨mG 1890 (by decide +kernel) (by decide +kernel), mG 134 (by decide +kernel) (by decide +kernel), by decide +kernel, ⟨by decide +kernel, by decide +kernel⟩, by decide +kernel, by decide⟩
theorem ml_X11_465 : Cond.methodLink RX11 465 yX11_loans ∈ lwG := mG 1887 (by decide +kernel) (by decide +kernel)
theorem im_X11_loans : Cond.instanceMethod yX11_loans ∈ lwG := mG 1889 (by decide +kernel) (by decide +kernel)
theorem se_X11_loans : Cond.selects RX11 yX11_loans yX11_loans ∈ lwG := mG 121 (by decide +kernel) (by decide +kernel)
theorem kb_11 : (Int8.ofInt (11)).toInt32 = (11 : Int32) := by decide +kernel
theorem mw_X11_canBeParent : MW yX11_canBeParent cX11_canBeParent 2 (some .boolean) 1 := ⟨mG 1410 (by decide +kernel) (by decide +kernel), mG 134 (by decide +kernel) (by decide +kernel), by decide +kernel, ⟨by decide +kernel, by decide +kernel⟩, by decide +kernel, by decide⟩
theorem ml_X11_143 : Cond.methodLink RX11 143 yX11_canBeParent ∈ lwG := mG 1407 (by decide +kernel) (by decide +kernel)
theorem im_X11_canBeParent : Cond.instanceMethod yX11_canBeParent ∈ lwG := mG 1409 (by decide +kernel) (by decide +kernel)
theorem se_X11_canBeParent : Cond.selects RX11 yX11_canBeParent yX11_canBeParent ∈ lwG := mG 32 (by decide +kernel) (by decide +kernel)
theorem mw_X11_canSet : MW yX11_canSet cX11_canSet 4 (some .boolean) 3 := ⟨mG 1427 (by decide +kernel) (by decide +kernel), mG 134 (by decide +kernel) (by decide +kernel), by decide +kernel, ⟨by decide +kernel, by decide +kernel⟩, by decide +kernel, by decide⟩
theorem ml_X11_154 : Cond.methodLink RX11 154 yX11_canSet ∈ lwG := mG 1424 (by decide +kernel) (by decide +kernel)
theorem im_X11_canSet : Cond.instanceMethod yX11_canSet ∈ lwG := mG 1426 (by decide +kernel) (by decide +kernel)
theorem se_X11_canSet : Cond.selects RX11 yX11_canSet yX11_canSet ∈ lwG := mG 35 (by decide +kernel) (by decide +kernel)
theorem mw_X11_areLiving : MW yX11_areLiving cX11_areLiving 2 (some .boolean) 1 := ⟨mG 1662 (by decide +kernel) (by decide +kernel), mG 134 (by decide +kernel) (by decide +kernel), by decide +kernel, ⟨by decide +kernel, by decide +kernel⟩, by decide +kernel, by decide⟩
theorem ml_X11_372 : Cond.methodLink RX11 372 yX11_areLiving ∈ lwG := mG 1659 (by decide +kernel) (by decide +kernel)
theorem im_X11_areLiving : Cond.instanceMethod yX11_areLiving ∈ lwG := mG 1661 (by decide +kernel) (by decide +kernel)
theorem se_X11_areLiving : Cond.selects RX11 yX11_areLiving yX11_areLiving ∈ lwG := mG 82 (by decide +kernel) (by decide +kernel)
theorem fl_X11_208 : Cond.fieldLink RX11 208 (TX11 32).1 (TX11 32).2.1 (TX11 32).2.2.1 ∈ lwG := mG 1252 (by decide +kernel) (by decide +kernel)
theorem fi_11_32 : fI 11 32 = true := by decide +kernel
theorem fl_X11_211 : Cond.fieldLink RX11 211 (TX11 33).1 (TX11 33).2.1 (TX11 33).2.2.1 ∈ lwG := mG 1253 (by decide +kernel) (by decide +kernel)
theorem fi_11_33 : fI 11 33 = true := by decide +kernel
theorem mw_X11_errsAt : MW yX11_errsAt cX11_errsAt 3 (some .int) 2 := ⟨mG 1491 (by decide +kernel) (by decide +kernel), mG 134 (by decide +kernel) (by decide +kernel), by decide +kernel, ⟨by decide +kernel, by decide +kernel⟩, by decide +kernel, by decide⟩
theorem ml_X11_266 : Cond.methodLink RX11 266 yX11_errsAt ∈ lwG := mG 1488 (by decide +kernel) (by decide +kernel)
theorem im_X11_errsAt : Cond.instanceMethod yX11_errsAt ∈ lwG := mG 1490 (by decide +kernel) (by decide +kernel)
theorem se_X11_errsAt : Cond.selects RX11 yX11_errsAt yX11_errsAt ∈ lwG := mG 47 (by decide +kernel) (by decide +kernel)
theorem mw_X11_letterOf : MW yX11_letterOf cX11_letterOf 2 (some .int) 1 := ⟨mG 1487 (by decide +kernel) (by decide +kernel), mG 134 (by decide +kernel) (by decide +kernel), by decide +kernel, ⟨by decide +kernel, by decide +kernel⟩, by decide +kernel, by decide⟩
theorem ml_X11_263 : Cond.methodLink RX11 263 yX11_letterOf ∈ lwG := mG 1484 (by decide +kernel) (by decide +kernel)
theorem im_X11_letterOf : Cond.instanceMethod yX11_letterOf ∈ lwG := mG 1486 (by decide +kernel) (by decide +kernel)
theorem se_X11_letterOf : Cond.selects RX11 yX11_letterOf yX11_letterOf ∈ lwG := mG 46 (by decide +kernel) (by decide +kernel)
theorem zr_239_21 : sR Z1 239 21 = some 251 := by decide +kernel
theorem fl_X11_43 : Cond.fieldLink RX11 43 (TX11 21).1 (TX11 21).2.1 (TX11 21).2.2.1 ∈ lwG := mG 1241 (by decide +kernel) (by decide +kernel)
theorem fi_11_21 : fI 11 21 = false := by decide +kernel
theorem zl_251 : 251 < Z1.length := by decide +kernel
theorem zk_251 : sK Z1 251 = (0, 93) := by decide +kernel
theorem kb_92 : (Int8.ofInt (92)).toInt32 = (92 : Int32) := by decide +kernel
theorem fl_X11_180 : Cond.fieldLink RX11 180 (TX11 17).1 (TX11 17).2.1 (TX11 17).2.2.1 ∈ lwG := mG 1237 (by decide +kernel) (by decide +kernel)
theorem fi_11_17 : fI 11 17 = true := by decide +kernel
theorem fl_X11_192 : Cond.fieldLink RX11 192 (TX11 20).1 (TX11 20).2.1 (TX11 20).2.2.1 ∈ lwG := mG 1240 (by decide +kernel) (by decide +kernel)
theorem fi_11_20 : fI 11 20 = true := by decide +kernel
theorem mw_X11_raw : MW yX11_raw cX11_raw 2 (some .int) 1 := ⟨mG 1499 (by decide +kernel) (by decide +kernel), mG 134 (by decide +kernel) (by decide +kernel), by decide +kernel, ⟨by decide +kernel, by decide +kernel⟩, by decide +kernel, by decide⟩
theorem ml_X11_183 : Cond.methodLink RX11 183 yX11_raw ∈ lwG := mG 1496 (by decide +kernel) (by decide +kernel)
theorem im_X11_raw : Cond.instanceMethod yX11_raw ∈ lwG := mG 1498 (by decide +kernel) (by decide +kernel)
theorem se_X11_raw : Cond.selects RX11 yX11_raw yX11_raw ∈ lwG := mG 49 (by decide +kernel) (by decide +kernel)
theorem mw_X11_isDigit : MW yX11_isDigit cX11_isDigit 2 (some .boolean) 1 := ⟨mG 1511 (by decide +kernel) (by decide +kernel), mG 134 (by decide +kernel) (by decide +kernel), by decide +kernel, ⟨by decide +kernel, by decide +kernel⟩, by decide +kernel, by decide⟩
theorem ml_X11_202 : Cond.methodLink RX11 202 yX11_isDigit ∈ lwG := mG 1508 (by decide +kernel) (by decide +kernel)
theorem im_X11_isDigit : Cond.instanceMethod yX11_isDigit ∈ lwG := mG 1510 (by decide +kernel) (by decide +kernel)
theorem se_X11_isDigit : Cond.selects RX11 yX11_isDigit yX11_isDigit ∈ lwG := mG 52 (by decide +kernel) (by decide +kernel)
theorem fl_X11_186 : Cond.fieldLink RX11 186 (TX11 18).1 (TX11 18).2.1 (TX11 18).2.2.1 ∈ lwG := mG 1238 (by decide +kernel) (by decide +kernel)
theorem fi_11_18 : fI 11 18 = true := by decide +kernel
theorem fl_X11_189 : Cond.fieldLink RX11 189 (TX11 19).1 (TX11 19).2.1 (TX11 19).2.2.1 ∈ lwG := mG 1239 (by decide +kernel) (by decide +kernel)
theorem fi_11_19 : fI 11 19 = true := by decide +kernel
theorem mw_X11_isLetter : MW yX11_isLetter cX11_isLetter 2 (some .boolean) 1 := ⟨mG 1503 (by decide +kernel) (by decide +kernel), mG 134 (by decide +kernel) (by decide +kernel), by decide +kernel, ⟨by decide +kernel, by decide +kernel⟩, by decide +kernel, by decide⟩
theorem ml_X11_195 : Cond.methodLink RX11 195 yX11_isLetter ∈ lwG := mG 1500 (by decide +kernel) (by decide +kernel)
theorem im_X11_isLetter : Cond.instanceMethod yX11_isLetter ∈ lwG := mG 1502 (by decide +kernel) (by decide +kernel)
theorem se_X11_isLetter : Cond.selects RX11 yX11_isLetter yX11_isLetter ∈ lwG := mG 50 (by decide +kernel) (by decide +kernel)
theorem mw_X11_wordAt : MW yX11_wordAt cX11_wordAt 6 (some .int) 2 := ⟨mG 1507 (by decide +kernel) (by decide +kernel), mG 134 (by decide +kernel) (by decide +kernel), by decide +kernel, ⟨by decide +kernel, by decide +kernel⟩, by decide +kernel, by decide⟩
theorem ml_X11_198 : Cond.methodLink RX11 198 yX11_wordAt ∈ lwG := mG 1504 (by decide +kernel) (by decide +kernel)
theorem im_X11_wordAt : Cond.instanceMethod yX11_wordAt ∈ lwG := mG 1506 (by decide +kernel) (by decide +kernel)
theorem se_X11_wordAt : Cond.selects RX11 yX11_wordAt yX11_wordAt ∈ lwG := mG 51 (by decide +kernel) (by decide +kernel)
theorem mw_X11_isMarkSign : MW yX11_isMarkSign cX11_isMarkSign 2 (some .boolean) 1 := ⟨mG 1515 (by decide +kernel) (by decide +kernel), mG 134 (by decide +kernel) (by decide +kernel), by decide +kernel, ⟨by decide +kernel, by decide +kernel⟩, by decide +kernel, by decide⟩
theorem ml_X11_205 : Cond.methodLink RX11 205 yX11_isMarkSign ∈ lwG := mG 1512 (by decide +kernel) (by decide +kernel)
theorem im_X11_isMarkSign : Cond.instanceMethod yX11_isMarkSign ∈ lwG := mG 1514 (by decide +kernel) (by decide +kernel)
theorem se_X11_isMarkSign : Cond.selects RX11 yX11_isMarkSign yX11_isMarkSign ∈ lwG := mG 53 (by decide +kernel) (by decide +kernel)
theorem fl_X11_214 : Cond.fieldLink RX11 214 (TX11 28).1 (TX11 28).2.1 (TX11 28).2.2.1 ∈ lwG := mG 1248 (by decide +kernel) (by decide +kernel)
theorem fi_11_28 : fI 11 28 = true := by decide +kernel
theorem mw_X11_emits : MW yX11_emits cX11_emits 3 none 2 := ⟨mG 1543 (by decide +kernel) (by decide +kernel), mG 134 (by decide +kernel) (by decide +kernel), by decide +kernel, ⟨by decide +kernel, by decide +kernel⟩, by decide +kernel, by decide⟩
theorem ml_X11_220 : Cond.methodLink RX11 220 yX11_emits ∈ lwG := mG 1540 (by decide +kernel) (by decide +kernel)
theorem im_X11_emits : Cond.instanceMethod yX11_emits ∈ lwG := mG 1542 (by decide +kernel) (by decide +kernel)
theorem se_X11_emits : Cond.selects RX11 yX11_emits yX11_emits ∈ lwG := mG 60 (by decide +kernel) (by decide +kernel)
theorem mw_X11_reads : MW yX11_reads cX11_reads 2 none 0 := ⟨mG 1495 (by decide +kernel) (by decide +kernel), mG 134 (by decide +kernel) (by decide +kernel), by decide +kernel, ⟨by decide +kernel, by decide +kernel⟩, by decide +kernel, by decide⟩
theorem ml_X11_223 : Cond.methodLink RX11 223 yX11_reads ∈ lwG := mG 1492 (by decide +kernel) (by decide +kernel)
theorem im_X11_reads : Cond.instanceMethod yX11_reads ∈ lwG := mG 1494 (by decide +kernel) (by decide +kernel)
theorem se_X11_reads : Cond.selects RX11 yX11_reads yX11_reads ∈ lwG := mG 48 (by decide +kernel) (by decide +kernel)
theorem mw_X11_errs : MW yX11_errs cX11_errs 2 (some .int) 1 := ⟨mG 1527 (by decide +kernel) (by decide +kernel), mG 134 (by decide +kernel) (by decide +kernel), by decide +kernel, ⟨by decide +kernel, by decide +kernel⟩, by decide +kernel, by decide⟩
theorem ml_X11_217 : Cond.methodLink RX11 217 yX11_errs ∈ lwG := mG 1524 (by decide +kernel) (by decide +kernel)
theorem im_X11_errs : Cond.instanceMethod yX11_errs ∈ lwG := mG 1526 (by decide +kernel) (by decide +kernel)
theorem se_X11_errs : Cond.selects RX11 yX11_errs yX11_errs ∈ lwG := mG 56 (by decide +kernel) (by decide +kernel)
theorem mw_X11_readUnit : MW yX11_readUnit cX11_readUnit 2 (some .int) 0 := ⟨mG 1539 (by decide +kernel) (by decide +kernel), mG 134 (by decide +kernel) (by decide +kernel), by decide +kernel, ⟨by decide +kernel, by decide +kernel⟩, by decide +kernel, by decide⟩
theorem ml_X11_226 : Cond.methodLink RX11 226 yX11_readUnit ∈ lwG := mG 1536 (by decide +kernel) (by decide +kernel)
theorem im_X11_readUnit : Cond.instanceMethod yX11_readUnit ∈ lwG := mG 1538 (by decide +kernel) (by decide +kernel)
theorem se_X11_readUnit : Cond.selects RX11 yX11_readUnit yX11_readUnit ∈ lwG := mG 59 (by decide +kernel) (by decide +kernel)
theorem mw_X11_isSign : MW yX11_isSign cX11_isSign 2 (some .boolean) 1 := ⟨mG 1547 (by decide +kernel) (by decide +kernel), mG 134 (by decide +kernel) (by decide +kernel), by decide +kernel, ⟨by decide +kernel, by decide +kernel⟩, by decide +kernel, by decide⟩
theorem ml_X11_230 : Cond.methodLink RX11 230 yX11_isSign ∈ lwG := mG 1544 (by decide +kernel) (by decide +kernel)
theorem im_X11_isSign : Cond.instanceMethod yX11_isSign ∈ lwG := mG 1546 (by decide +kernel) (by decide +kernel)
theorem se_X11_isSign : Cond.selects RX11 yX11_isSign yX11_isSign ∈ lwG := mG 61 (by decide +kernel) (by decide +kernel)
theorem mw_X11_readProduct : MW yX11_readProduct cX11_readProduct 2 (some .int) 0 := ⟨mG 1535 (by decide +kernel) (by decide +kernel), mG 134 (by decide +kernel) (by decide +kernel), by decide +kernel, ⟨by decide +kernel, by decide +kernel⟩, by decide +kernel, by decide⟩
theorem ml_X11_233 : Cond.methodLink RX11 233 yX11_readProduct ∈ lwG := mG 1532 (by decide +kernel) (by decide +kernel)
theorem im_X11_readProduct : Cond.instanceMethod yX11_readProduct ∈ lwG := mG 1534 (by decide +kernel) (by decide +kernel)
theorem se_X11_readProduct : Cond.selects RX11 yX11_readProduct yX11_readProduct ∈ lwG := mG 58 (by decide +kernel) (by decide +kernel)
theorem zr_239_30 : sR Z1 239 30 = some 257 := by decide +kernel
theorem fl_X11_61 : Cond.fieldLink RX11 61 (TX11 30).1 (TX11 30).2.1 (TX11 30).2.2.1 ∈ lwG := mG 1250 (by decide +kernel) (by decide +kernel)
theorem fi_11_30 : fI 11 30 = false := by decide +kernel
theorem fl_X11_239 : Cond.fieldLink RX11 239 (TX11 31).1 (TX11 31).2.1 (TX11 31).2.2.1 ∈ lwG := mG 1251 (by decide +kernel) (by decide +kernel)
theorem fi_11_31 : fI 11 31 = true := by decide +kernel
theorem zl_257 : 257 < Z1.length := by decide +kernel
theorem zk_257 : sK Z1 257 = (0, 40) := by decide +kernel
theorem mw_X11_readSum : MW yX11_readSum cX11_readSum 2 (some .int) 0 := ⟨mG 1531 (by decide +kernel) (by decide +kernel), mG 134 (by decide +kernel) (by decide +kernel), by decide +kernel, ⟨by decide +kernel, by decide +kernel⟩, by decide +kernel, by decide⟩
theorem ml_X11_236 : Cond.methodLink RX11 236 yX11_readSum ∈ lwG := mG 1528 (by decide +kernel) (by decide +kernel)
theorem im_X11_readSum : Cond.instanceMethod yX11_readSum ∈ lwG := mG 1530 (by decide +kernel) (by decide +kernel)
theorem se_X11_readSum : Cond.selects RX11 yX11_readSum yX11_readSum ∈ lwG := mG 57 (by decide +kernel) (by decide +kernel)
theorem fl_X11_242 : Cond.fieldLink RX11 242 (TX11 29).1 (TX11 29).2.1 (TX11 29).2.2.1 ∈ lwG := mG 1249 (by decide +kernel) (by decide +kernel)
theorem fi_11_29 : fI 11 29 = true := by decide +kernel
theorem mw_X11_waits : MW yX11_waits cX11_waits 2 none 1 := ⟨mG 1555 (by decide +kernel) (by decide +kernel), mG 134 (by decide +kernel) (by decide +kernel), by decide +kernel, ⟨by decide +kernel, by decide +kernel⟩, by decide +kernel, by decide⟩
theorem ml_X11_248 : Cond.methodLink RX11 248 yX11_waits ∈ lwG := mG 1552 (by decide +kernel) (by decide +kernel)
theorem im_X11_waits : Cond.instanceMethod yX11_waits ∈ lwG := mG 1554 (by decide +kernel) (by decide +kernel)
theorem se_X11_waits : Cond.selects RX11 yX11_waits yX11_waits ∈ lwG := mG 63 (by decide +kernel) (by decide +kernel)
theorem mw_X11_isWord : MW yX11_isWord cX11_isWord 2 (some .boolean) 1 := ⟨mG 1523 (by decide +kernel) (by decide +kernel), mG 134 (by decide +kernel) (by decide +kernel), by decide +kernel, ⟨by decide +kernel, by decide +kernel⟩, by decide +kernel, by decide⟩
theorem ml_X11_245 : Cond.methodLink RX11 245 yX11_isWord ∈ lwG := mG 1520 (by decide +kernel) (by decide +kernel)
theorem im_X11_isWord : Cond.instanceMethod yX11_isWord ∈ lwG := mG 1522 (by decide +kernel) (by decide +kernel)
theorem se_X11_isWord : Cond.selects RX11 yX11_isWord yX11_isWord ∈ lwG := mG 55 (by decide +kernel) (by decide +kernel)
theorem mw_X11_settles : MW yX11_settles cX11_settles 2 none 1 := ⟨mG 1563 (by decide +kernel) (by decide +kernel), mG 134 (by decide +kernel) (by decide +kernel), by decide +kernel, ⟨by decide +kernel, by decide +kernel⟩, by decide +kernel, by decide⟩
theorem ml_X11_254 : Cond.methodLink RX11 254 yX11_settles ∈ lwG := mG 1560 (by decide +kernel) (by decide +kernel)
theorem im_X11_settles : Cond.instanceMethod yX11_settles ∈ lwG := mG 1562 (by decide +kernel) (by decide +kernel)
theorem se_X11_settles : Cond.selects RX11 yX11_settles yX11_settles ∈ lwG := mG 65 (by decide +kernel) (by decide +kernel)
theorem mw_X11_readCompared : MW yX11_readCompared cX11_readCompared 2 (some .int) 0 := ⟨mG 1559 (by decide +kernel) (by decide +kernel), mG 134 (by decide +kernel) (by decide +kernel), by decide +kernel, ⟨by decide +kernel, by decide +kernel⟩, by decide +kernel, by decide⟩
theorem ml_X11_251 : Cond.methodLink RX11 251 yX11_readCompared ∈ lwG := mG 1556 (by decide +kernel) (by decide +kernel)
theorem im_X11_readCompared : Cond.instanceMethod yX11_readCompared ∈ lwG := mG 1558 (by decide +kernel) (by decide +kernel)
theorem se_X11_readCompared : Cond.selects RX11 yX11_readCompared yX11_readCompared ∈ lwG := mG 64 (by decide +kernel) (by decide +kernel)
theorem mw_X11_readAny : MW yX11_readAny cX11_readAny 4 (some .int) 0 := ⟨mG 1551 (by decide +kernel) (by decide +kernel), mG 134 (by decide +kernel) (by decide +kernel), by decide +kernel, ⟨by decide +kernel, by decide +kernel⟩, by decide +kernel, by decide⟩
theorem ml_X11_257 : Cond.methodLink RX11 257 yX11_readAny ∈ lwG := mG 1548 (by decide +kernel) (by decide +kernel)
theorem im_X11_readAny : Cond.instanceMethod yX11_readAny ∈ lwG := mG 1550 (by decide +kernel) (by decide +kernel)
theorem se_X11_readAny : Cond.selects RX11 yX11_readAny yX11_readAny ∈ lwG := mG 62 (by decide +kernel) (by decide +kernel)
theorem mw_X11_readHeir : MW yX11_readHeir cX11_readHeir 3 (some .int) 1 := ⟨mG 1580 (by decide +kernel) (by decide +kernel), mG 134 (by decide +kernel) (by decide +kernel), by decide +kernel, ⟨by decide +kernel, by decide +kernel⟩, by decide +kernel, by decide⟩
theorem ml_X11_273 : Cond.methodLink RX11 273 yX11_readHeir ∈ lwG := mG 1577 (by decide +kernel) (by decide +kernel)
theorem im_X11_readHeir : Cond.instanceMethod yX11_readHeir ∈ lwG := mG 1579 (by decide +kernel) (by decide +kernel)
theorem se_X11_readHeir : Cond.selects RX11 yX11_readHeir yX11_readHeir ∈ lwG := mG 69 (by decide +kernel) (by decide +kernel)
theorem kb_17 : (Int8.ofInt (17)).toInt32 = (17 : Int32) := by decide +kernel
theorem mw_X11_readRow : MW yX11_readRow cX11_readRow 4 (some .int) 0 := ⟨mG 1576 (by decide +kernel) (by decide +kernel), mG 134 (by decide +kernel) (by decide +kernel), by decide +kernel, ⟨by decide +kernel, by decide +kernel⟩, by decide +kernel, by decide⟩
theorem ml_X11_270 : Cond.methodLink RX11 270 yX11_readRow ∈ lwG := mG 1573 (by decide +kernel) (by decide +kernel)
theorem im_X11_readRow : Cond.instanceMethod yX11_readRow ∈ lwG := mG 1575 (by decide +kernel) (by decide +kernel)
theorem se_X11_readRow : Cond.selects RX11 yX11_readRow yX11_readRow ∈ lwG := mG 68 (by decide +kernel) (by decide +kernel)
theorem kb_18 : (Int8.ofInt (18)).toInt32 = (18 : Int32) := by decide +kernel
theorem mw_X11_readLine : MW yX11_readLine cX11_readLine 7 (some .int) 3 := ⟨mG 1571 (by decide +kernel) (by decide +kernel), mG 134 (by decide +kernel) (by decide +kernel), by decide +kernel, ⟨by decide +kernel, by decide +kernel⟩, by decide +kernel, by decide⟩
theorem ml_X11_276 : Cond.methodLink RX11 276 yX11_readLine ∈ lwG := mG 1568 (by decide +kernel) (by decide +kernel)
theorem im_X11_readLine : Cond.instanceMethod yX11_readLine ∈ lwG := mG 1570 (by decide +kernel) (by decide +kernel)
theorem se_X11_readLine : Cond.selects RX11 yX11_readLine yX11_readLine ∈ lwG := mG 67 (by decide +kernel) (by decide +kernel)
theorem kb_15 : (Int8.ofInt (15)).toInt32 = (15 : Int32) := by decide +kernel
theorem mw_X11_readDeed : MW yX11_readDeed cX11_readDeed 3 (some .int) 0 := ⟨mG 1483 (by decide +kernel) (by decide +kernel), mG 134 (by decide +kernel) (by decide +kernel), by decide +kernel, ⟨by decide +kernel, by decide +kernel⟩, by decide +kernel, by decide⟩
theorem ml_X11_280 : Cond.methodLink RX11 280 yX11_readDeed ∈ lwG := mG 1480 (by decide +kernel) (by decide +kernel)
theorem im_X11_readDeed : Cond.instanceMethod yX11_readDeed ∈ lwG := mG 1482 (by decide +kernel) (by decide +kernel)
theorem se_X11_readDeed : Cond.selects RX11 yX11_readDeed yX11_readDeed ∈ lwG := mG 45 (by decide +kernel) (by decide +kernel)
theorem mw_X11_readText : MW yX11_readText cX11_readText 3 (some .int) 0 := ⟨mG 1519 (by decide +kernel) (by decide +kernel), mG 134 (by decide +kernel) (by decide +kernel), by decide +kernel, ⟨by decide +kernel, by decide +kernel⟩, by decide +kernel, by decide⟩
theorem ml_X11_283 : Cond.methodLink RX11 283 yX11_readText ∈ lwG := mG 1516 (by decide +kernel) (by decide +kernel)
theorem im_X11_readText : Cond.instanceMethod yX11_readText ∈ lwG := mG 1518 (by decide +kernel) (by decide +kernel)
theorem se_X11_readText : Cond.selects RX11 yX11_readText yX11_readText ∈ lwG := mG 54 (by decide +kernel) (by decide +kernel)
theorem mw_X11_readWill : MW yX11_readWill cX11_readWill 4 (some .int) 1 := ⟨mG 1567 (by decide +kernel) (by decide +kernel), mG 134 (by decide +kernel) (by decide +kernel), by decide +kernel, ⟨by decide +kernel, by decide +kernel⟩, by decide +kernel, by decide⟩
theorem ml_X11_286 : Cond.methodLink RX11 286 yX11_readWill ∈ lwG := mG 1564 (by decide +kernel) (by decide +kernel)
theorem im_X11_readWill : Cond.instanceMethod yX11_readWill ∈ lwG := mG 1566 (by decide +kernel) (by decide +kernel)
theorem se_X11_readWill : Cond.selects RX11 yX11_readWill yX11_readWill ∈ lwG := mG 66 (by decide +kernel) (by decide +kernel)
theorem mw_X11_takesDeed : MW yX11_takesDeed cX11_takesDeed 4 (some .int) 1 := ⟨mG 1584 (by decide +kernel) (by decide +kernel), mG 134 (by decide +kernel) (by decide +kernel), by decide +kernel, ⟨by decide +kernel, by decide +kernel⟩, by decide +kernel, by decide⟩
theorem ml_X11_299 : Cond.methodLink RX11 299 yX11_takesDeed ∈ lwG := mG 1581 (by decide +kernel) (by decide +kernel)
theorem im_X11_takesDeed : Cond.instanceMethod yX11_takesDeed ∈ lwG := mG 1583 (by decide +kernel) (by decide +kernel)
theorem se_X11_takesDeed : Cond.selects RX11 yX11_takesDeed yX11_takesDeed ∈ lwG := mG 70 (by decide +kernel) (by decide +kernel)
theorem mw_X11_takesLaw : MW yX11_takesLaw cX11_takesLaw 3 none 1 := ⟨mG 1588 (by decide +kernel) (by decide +kernel), mG 134 (by decide +kernel) (by decide +kernel), by decide +kernel, ⟨by decide +kernel, by decide +kernel⟩, by decide +kernel, by decide⟩
theorem ml_X11_302 : Cond.methodLink RX11 302 yX11_takesLaw ∈ lwG := mG 1585 (by decide +kernel) (by decide +kernel)
theorem im_X11_takesLaw : Cond.instanceMethod yX11_takesLaw ∈ lwG := mG 1587 (by decide +kernel) (by decide +kernel)
theorem se_X11_takesLaw : Cond.selects RX11 yX11_takesLaw yX11_takesLaw ∈ lwG := mG 71 (by decide +kernel) (by decide +kernel)
theorem mw_X11_takesWill : MW yX11_takesWill cX11_takesWill 4 none 2 := ⟨mG 1592 (by decide +kernel) (by decide +kernel), mG 134 (by decide +kernel) (by decide +kernel), by decide +kernel, ⟨by decide +kernel, by decide +kernel⟩, by decide +kernel, by decide⟩
theorem ml_X11_305 : Cond.methodLink RX11 305 yX11_takesWill ∈ lwG := mG 1589 (by decide +kernel) (by decide +kernel)
theorem im_X11_takesWill : Cond.instanceMethod yX11_takesWill ∈ lwG := mG 1591 (by decide +kernel) (by decide +kernel)
theorem se_X11_takesWill : Cond.selects RX11 yX11_takesWill yX11_takesWill ∈ lwG := mG 72 (by decide +kernel) (by decide +kernel)
theorem mw_X11_canText : MW yX11_canText cX11_canText 3 (some .boolean) 2 := ⟨mG 1475 (by decide +kernel) (by decide +kernel), mG 134 (by decide +kernel) (by decide +kernel), by decide +kernel, ⟨by decide +kernel, by decide +kernel⟩, by decide +kernel, by decide⟩
theorem ml_X11_292 : Cond.methodLink RX11 292 yX11_canText ∈ lwG := mG 1472 (by decide +kernel) (by decide +kernel)
theorem im_X11_canText : Cond.instanceMethod yX11_canText ∈ lwG := mG 1474 (by decide +kernel) (by decide +kernel)
theorem se_X11_canText : Cond.selects RX11 yX11_canText yX11_canText ∈ lwG := mG 43 (by decide +kernel) (by decide +kernel)
theorem mw_X11_readsText : MW yX11_readsText cX11_readsText 3 (some .int) 2 := ⟨mG 1479 (by decide +kernel) (by decide +kernel), mG 134 (by decide +kernel) (by decide +kernel), by decide +kernel, ⟨by decide +kernel, by decide +kernel⟩, by decide +kernel, by decide⟩
theorem ml_X11_296 : Cond.methodLink RX11 296 yX11_readsText ∈ lwG := mG 1476 (by decide +kernel) (by decide +kernel)
theorem im_X11_readsText : Cond.instanceMethod yX11_readsText ∈ lwG := mG 1478 (by decide +kernel) (by decide +kernel)
theorem se_X11_readsText : Cond.selects RX11 yX11_readsText yX11_readsText ∈ lwG := mG 44 (by decide +kernel) (by decide +kernel)
theorem mw_X11_haveParentInCommon : MW yX11_haveParentInCommon cX11_haveParentInCommon 3 (some .boolean) 2 := ⟨mG 1612 (by decide +kernel) (by decide +kernel), mG 134 (by decide +kernel) (by decide +kernel), by decide +kernel, ⟨by decide +kernel, by decide +kernel⟩, by decide +kernel, by decide⟩
theorem ml_X11_351 : Cond.methodLink RX11 351 yX11_haveParentInCommon ∈ lwG := mG 1609 (by decide +kernel) (by decide +kernel)
theorem im_X11_haveParentInCommon : Cond.instanceMethod yX11_haveParentInCommon ∈ lwG := mG 1611 (by decide +kernel) (by decide +kernel)
theorem se_X11_haveParentInCommon : Cond.selects RX11 yX11_haveParentInCommon yX11_haveParentInCommon ∈ lwG := mG 75 (by decide +kernel) (by decide +kernel)
theorem mw_X11_canWed : MW yX11_canWed cX11_canWed 3 (some .boolean) 2 := ⟨mG 1604 (by decide +kernel) (by decide +kernel), mG 134 (by decide +kernel) (by decide +kernel), by decide +kernel, ⟨by decide +kernel, by decide +kernel⟩, by decide +kernel, by decide⟩
theorem ml_X11_354 : Cond.methodLink RX11 354 yX11_canWed ∈ lwG := mG 1601 (by decide +kernel) (by decide +kernel)
theorem im_X11_canWed : Cond.instanceMethod yX11_canWed ∈ lwG := mG 1603 (by decide +kernel) (by decide +kernel)
theorem se_X11_canWed : Cond.selects RX11 yX11_canWed yX11_canWed ∈ lwG := mG 73 (by decide +kernel) (by decide +kernel)
theorem mw_X11_weds : MW yX11_weds cX11_weds 3 none 2 := ⟨mG 1620 (by decide +kernel) (by decide +kernel), mG 134 (by decide +kernel) (by decide +kernel), by decide +kernel, ⟨by decide +kernel, by decide +kernel⟩, by decide +kernel, by decide⟩
theorem ml_X11_360 : Cond.methodLink RX11 360 yX11_weds ∈ lwG := mG 1617 (by decide +kernel) (by decide +kernel)
theorem im_X11_weds : Cond.instanceMethod yX11_weds ∈ lwG := mG 1619 (by decide +kernel) (by decide +kernel)
theorem se_X11_weds : Cond.selects RX11 yX11_weds yX11_weds ∈ lwG := mG 77 (by decide +kernel) (by decide +kernel)
theorem zr_239_49 : sR Z1 239 49 = some 268 := by decide +kernel
theorem mw_X11_canWriteDeed : MW yX11_canWriteDeed cX11_canWriteDeed 3 (some .boolean) 2 := ⟨mG 1810 (by decide +kernel) (by decide +kernel), mG 134 (by decide +kernel) (by decide +kernel), by decide +kernel, ⟨by decide +kernel, by decide +kernel⟩, by decide +kernel, by decide⟩
theorem ml_X11_417 : Cond.methodLink RX11 417 yX11_canWriteDeed ∈ lwG := mG 1807 (by decide +kernel) (by decide +kernel)
theorem im_X11_canWriteDeed : Cond.instanceMethod yX11_canWriteDeed ∈ lwG := mG 1809 (by decide +kernel) (by decide +kernel)
theorem se_X11_canWriteDeed : Cond.selects RX11 yX11_canWriteDeed yX11_canWriteDeed ∈ lwG := mG 109 (by decide +kernel) (by decide +kernel)
theorem fl_X11_101 : Cond.fieldLink RX11 101 (TX11 49).1 (TX11 49).2.1 (TX11 49).2.2.1 ∈ lwG := mG 1269 (by decide +kernel) (by decide +kernel)
theorem fi_11_49 : fI 11 49 = false := by decide +kernel
theorem zl_268 : 268 < Z1.length := by decide +kernel
theorem zk_268 : sK Z1 268 = (0, 4) := by decide +kernel
theorem ib_2_4 : inB (2 : Int32) 4 = true := by decide +kernel
theorem ib_3_4 : inB (3 : Int32) 4 = true := by decide +kernel
theorem ib_0_4 : inB (0 : Int32) 4 = true := by decide +kernel
theorem ib_1_4 : inB (1 : Int32) 4 = true := by decide +kernel
theorem mw_X11_canBySecond : MW yX11_canBySecond cX11_canBySecond 7 (some .boolean) 3 := ⟨mG 1818 (by decide +kernel) (by decide +kernel), mG 134 (by decide +kernel) (by decide +kernel), by decide +kernel, ⟨by decide +kernel, by decide +kernel⟩, by decide +kernel, by decide⟩
theorem ml_X11_420 : Cond.methodLink RX11 420 yX11_canBySecond ∈ lwG := mG 1815 (by decide +kernel) (by decide +kernel)
theorem im_X11_canBySecond : Cond.instanceMethod yX11_canBySecond ∈ lwG := mG 1817 (by decide +kernel) (by decide +kernel)
theorem se_X11_canBySecond : Cond.selects RX11 yX11_canBySecond yX11_canBySecond ∈ lwG := mG 111 (by decide +kernel) (by decide +kernel)
theorem mw_X11_canByWeddings : MW yX11_canByWeddings cX11_canByWeddings 7 (some .boolean) 3 := ⟨mG 1814 (by decide +kernel) (by decide +kernel), mG 134 (by decide +kernel) (by decide +kernel), by decide +kernel, ⟨by decide +kernel, by decide +kernel⟩, by decide +kernel, by decide⟩
theorem ml_X11_423 : Cond.methodLink RX11 423 yX11_canByWeddings ∈ lwG := mG 1811 (by decide +kernel) (by decide +kernel)
theorem im_X11_canByWeddings : Cond.instanceMethod yX11_canByWeddings ∈ lwG := mG 1813 (by decide +kernel) (by decide +kernel)
theorem se_X11_canByWeddings : Cond.selects RX11 yX11_canByWeddings yX11_canByWeddings ∈ lwG := mG 110 (by decide +kernel) (by decide +kernel)
theorem mw_X11_fewestWeddings : MW yX11_fewestWeddings cX11_fewestWeddings 4 (some .int) 2 := ⟨mG 1806 (by decide +kernel) (by decide +kernel), mG 134 (by decide +kernel) (by decide +kernel), by decide +kernel, ⟨by decide +kernel, by decide +kernel⟩, by decide +kernel, by decide⟩
theorem ml_X11_426 : Cond.methodLink RX11 426 yX11_fewestWeddings ∈ lwG := mG 1803 (by decide +kernel) (by decide +kernel)
theorem im_X11_fewestWeddings : Cond.instanceMethod yX11_fewestWeddings ∈ lwG := mG 1805 (by decide +kernel) (by decide +kernel)
theorem se_X11_fewestWeddings : Cond.selects RX11 yX11_fewestWeddings yX11_fewestWeddings ∈ lwG := mG 108 (by decide +kernel) (by decide +kernel)
