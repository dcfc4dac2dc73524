/-- a call: both answer alike, and what holds between the calls holds again -/
def PairI (fB fM : Hp → Option (Int32 × Hp)) (n : Nat) (sg : Hp) : Prop := ∃ r s1 s2, fB sg = some (r, s1) ∧ fM s1 = some (r, s2) ∧ Inv (n + 20) s2
def PairL (fB fM : Hp → Option (Int64 × Hp)) (n : Nat) (sg : Hp) : Prop := ∃ r s1 s2, fB sg = some (r, s1) ∧ fM s1 = some (r, s2) ∧ Inv (n + 20) s2
def K_side : Prop := ∀ (n : Nat) (sg : Hp), Inv n sg → n ≤ 5000 → ∀ (a1 : Int32) (a2 : Int32), PairI (fun s => f_Box_side s a1 a2) (fun s => f_Mod_side s a1 a2) n sg
def K_place : Prop := ∀ (n : Nat) (sg : Hp), Inv n sg → n ≤ 5000 → ∀ (a1 : Int32) (a2 : Int32) (a3 : Int32) (a4 : Int32), PairI (fun s => f_Box_place s a1 a2 a3 a4) (fun s => f_Mod_place s a1 a2 a3 a4) n sg
def K_at : Prop := ∀ (n : Nat) (sg : Hp), Inv n sg → n ≤ 5000 → ∀ (a1 : Int32) (a2 : Int32), PairI (fun s => f_Box_at s a1 a2) (fun s => f_Mod_at s a1 a2) n sg
def K_read : Prop := ∀ (n : Nat) (sg : Hp), Inv n sg → n ≤ 5000 → ∀ (a1 : Int32), PairI (fun s => f_Box_read s a1) (fun s => f_Mod_read s a1) n sg
def K_type : Prop := ∀ (n : Nat) (sg : Hp), Inv n sg → n ≤ 5000 → ∀ (a1 : Int32), PairI (fun s => f_Box_type s a1) (fun s => f_Mod_type s a1) n sg
def K_undo : Prop := ∀ (n : Nat) (sg : Hp), Inv n sg → n ≤ 5000 → PairI (fun s => f_Box_undo s) (fun s => f_Mod_undo s) n sg
def K_wipe : Prop := ∀ (n : Nat) (sg : Hp), Inv n sg → n ≤ 5000 → PairI (fun s => f_Box_wipe s) (fun s => f_Mod_wipe s) n sg
def K_fault : Prop := ∀ (n : Nat) (sg : Hp), Inv n sg → n ≤ 5000 → PairI (fun s => f_Box_fault s) (fun s => f_Mod_fault s) n sg
def K_bar : Prop := ∀ (n : Nat) (sg : Hp), Inv n sg → n ≤ 5000 → ∀ (a1 : Int32) (a2 : Int32) (a3 : Int32), PairI (fun s => f_Box_bar s a1 a2 a3) (fun s => f_Mod_bar s a1 a2 a3) n sg
def K_laidOut : Prop := ∀ (n : Nat) (sg : Hp), Inv n sg → n ≤ 5000 → ∀ (a1 : Int32) (a2 : Int32), PairI (fun s => f_Box_laidOut s a1 a2) (fun s => f_Mod_laidOut s a1 a2) n sg
def K_lies : Prop := ∀ (n : Nat) (sg : Hp), Inv n sg → n ≤ 5000 → ∀ (a1 : Int32) (a2 : Int32) (a3 : Int32), PairI (fun s => f_Box_lies s a1 a2 a3) (fun s => f_Mod_lies s a1 a2 a3) n sg
def K_shortest : Prop := ∀ (n : Nat) (sg : Hp), Inv n sg → n ≤ 5000 → ∀ (a1 : Int32) (a2 : Int32), PairI (fun s => f_Box_shortest s a1 a2) (fun s => f_Mod_shortest s a1 a2) n sg
def K_ways : Prop := ∀ (n : Nat) (sg : Hp), Inv n sg → n ≤ 5000 → ∀ (a1 : Int32) (a2 : Int32), PairI (fun s => f_Box_ways s a1 a2) (fun s => f_Mod_ways s a1 a2) n sg
def K_face : Prop := ∀ (n : Nat) (sg : Hp), Inv n sg → n ≤ 5000 → ∀ (a1 : Int32) (a2 : Int32) (a3 : Int32), PairI (fun s => f_Box_face s a1 a2 a3) (fun s => f_Mod_face s a1 a2 a3) n sg
def K_farthest : Prop := ∀ (n : Nat) (sg : Hp), Inv n sg → n ≤ 5000 → ∀ (a1 : Int32), PairI (fun s => f_Box_farthest s a1) (fun s => f_Mod_farthest s a1) n sg
def K_sit : Prop := ∀ (n : Nat) (sg : Hp), Inv n sg → n ≤ 5000 → PairI (fun s => f_Box_sit s) (fun s => f_Mod_sit s) n sg
def K_nearer : Prop := ∀ (n : Nat) (sg : Hp), Inv n sg → n ≤ 5000 → ∀ (a1 : Int32) (a2 : Int32), PairI (fun s => f_Box_nearer s a1 a2) (fun s => f_Mod_nearer s a1 a2) n sg
def K_wires : Prop := ∀ (n : Nat) (sg : Hp), Inv n sg → n ≤ 5000 → ∀ (a1 : Int32) (a2 : Int32), PairI (fun s => f_Box_wires s a1 a2) (fun s => f_Mod_wires s a1 a2) n sg
def K_within : Prop := ∀ (n : Nat) (sg : Hp), Inv n sg → n ≤ 5000 → ∀ (a1 : Int32) (a2 : Int32), PairI (fun s => f_Box_within s a1 a2) (fun s => f_Mod_within s a1 a2) n sg
def K_told : Prop := ∀ (n : Nat) (sg : Hp), Inv n sg → n ≤ 5000 → ∀ (a1 : Int32) (a2 : Int32) (a3 : Int32) (a4 : Int32), PairI (fun s => f_Box_told s a1 a2 a3 a4) (fun s => f_Mod_told s a1 a2 a3 a4) n sg
def K_snail : Prop := ∀ (n : Nat) (sg : Hp), Inv n sg → n ≤ 5000 → ∀ (a1 : Int32) (a2 : Int32) (a3 : Int32) (a4 : Int32), PairI (fun s => f_Box_snail s a1 a2 a3 a4) (fun s => f_Mod_snail s a1 a2 a3 a4) n sg
def K_thread : Prop := ∀ (n : Nat) (sg : Hp), Inv n sg → n ≤ 5000 → ∀ (a1 : Int32) (a2 : Int32) (a3 : Int32) (a4 : Int32), PairI (fun s => f_Box_thread s a1 a2 a3 a4) (fun s => f_Mod_thread s a1 a2 a3 a4) n sg
def K_flies : Prop := ∀ (n : Nat) (sg : Hp), Inv n sg → n ≤ 5000 → ∀ (a1 : Int32) (a2 : Int32) (a3 : Int32) (a4 : Int32), PairI (fun s => f_Box_flies s a1 a2 a3 a4) (fun s => f_Mod_flies s a1 a2 a3 a4) n sg
def K_sheet : Prop := ∀ (n : Nat) (sg : Hp), Inv n sg → n ≤ 5000 → ∀ (a1 : Int32) (a2 : Int32) (a3 : Int32), PairI (fun s => f_Box_sheet s a1 a2 a3) (fun s => f_Mod_sheet s a1 a2 a3) n sg
def K_lose : Prop := ∀ (n : Nat) (sg : Hp), Inv n sg → n ≤ 5000 → ∀ (a1 : Int32), PairI (fun s => f_Box_lose s a1) (fun s => f_Mod_lose s a1) n sg
def K_lay : Prop := ∀ (n : Nat) (sg : Hp), Inv n sg → n ≤ 5000 → ∀ (a1 : Int32) (a2 : Int32) (a3 : Int32) (a4 : Int32), PairI (fun s => f_Box_lay s a1 a2 a3 a4) (fun s => f_Mod_lay s a1 a2 a3 a4) n sg
def K_get : Prop := ∀ (n : Nat) (sg : Hp), Inv n sg → n ≤ 5000 → ∀ (a1 : Int32) (a2 : Int32) (a3 : Int32), PairI (fun s => f_Box_get s a1 a2 a3) (fun s => f_Mod_get s a1 a2 a3) n sg
def K_copy : Prop := ∀ (n : Nat) (sg : Hp), Inv n sg → n ≤ 5000 → ∀ (a1 : Int32) (a2 : Int32) (a3 : Int32) (a4 : Int32) (a5 : Int32), PairI (fun s => f_Box_copy s a1 a2 a3 a4 a5) (fun s => f_Mod_copy s a1 a2 a3 a4 a5) n sg
def K_write : Prop := ∀ (n : Nat) (sg : Hp), Inv n sg → n ≤ 5000 → ∀ (a1 : Int32) (a2 : Int32), PairI (fun s => f_Box_write s a1 a2) (fun s => f_Mod_write s a1 a2) n sg
def K_count : Prop := ∀ (n : Nat) (sg : Hp), Inv n sg → n ≤ 5000 → ∀ (a1 : Int32), PairI (fun s => f_Box_count s a1) (fun s => f_Mod_count s a1) n sg
def K_digest : Prop := ∀ (n : Nat) (sg : Hp), Inv n sg → n ≤ 5000 → PairL (fun s => f_Box_digest s) (fun s => f_Mod_digest s) n sg
