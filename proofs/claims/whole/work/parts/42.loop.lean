/-! ===== the law's loop, over what the calls do ===== -/
/-- feed -/
def Sim_0 (Inv : KS → (Nat → Nat → Int32) → Prop) : Prop := ∀ (a1 : Int32) (a2 : Int32) (a3 : Int32) (a4 : Int32) (a5 : Int32) (k : KS) (g : Nat → Nat → Int32), Inv k g → ∃ (N N' : Nat) (v : Int32) (k' : KS) (g' : Nat → Nat → Int32), KO_0 N a1 a2 a3 a4 a5 k = some (v, k') ∧ MO_0 N' a1 a2 a3 a4 a5 g = some (v, g') ∧ Inv k' g'
/-- end -/
def Sim_1 (Inv : KS → (Nat → Nat → Int32) → Prop) : Prop := ∀ (a1 : Int32) (k : KS) (g : Nat → Nat → Int32), Inv k g → ∃ (N N' : Nat) (v : Int32) (k' : KS) (g' : Nat → Nat → Int32), KO_1 N a1 k = some (v, k') ∧ MO_1 N' a1 g = some (v, g') ∧ Inv k' g'
/-- ship -/
def Sim_2 (Inv : KS → (Nat → Nat → Int32) → Prop) : Prop := ∀ (k : KS) (g : Nat → Nat → Int32), Inv k g → ∃ (N N' : Nat) (v : Int32) (k' : KS) (g' : Nat → Nat → Int32) (s : Bool), KO_2 N k = some (v, k', s) ∧ MO_2 N' g = some (v, g') ∧ Inv k' g'
/-- fault -/
def Sim_3 (Inv : KS → (Nat → Nat → Int32) → Prop) : Prop := ∀ (a1 : Int32) (k : KS) (g : Nat → Nat → Int32), Inv k g → ∃ (N N' : Nat) (v : Int32) (k' : KS) (g' : Nat → Nat → Int32), KO_3 N a1 k = some (v, k') ∧ MO_3 N' a1 g = some (v, g') ∧ Inv k' g'
/-- count -/
def Sim_4 (Inv : KS → (Nat → Nat → Int32) → Prop) : Prop := ∀ (a1 : Int32) (k : KS) (g : Nat → Nat → Int32), Inv k g → ∃ (N N' : Nat) (v : Int32) (k' : KS) (g' : Nat → Nat → Int32), KO_4 N a1 k = some (v, k') ∧ MO_4 N' a1 g = some (v, g') ∧ Inv k' g'
/-- wall -/
def Sim_5 (Inv : KS → (Nat → Nat → Int32) → Prop) : Prop := ∀ (a1 : Int32) (k : KS) (g : Nat → Nat → Int32), Inv k g → ∃ (N N' : Nat) (v : Int32) (k' : KS) (g' : Nat → Nat → Int32), KO_5 N a1 k = some (v, k') ∧ MO_5 N' a1 g = some (v, g') ∧ Inv k' g'
/-- level -/
def Sim_6 (Inv : KS → (Nat → Nat → Int32) → Prop) : Prop := ∀ (a1 : Int32) (a2 : Int32) (k : KS) (g : Nat → Nat → Int32), Inv k g → ∃ (N N' : Nat) (v : Int32) (k' : KS) (g' : Nat → Nat → Int32), KO_6 N a1 a2 k = some (v, k') ∧ MO_6 N' a1 a2 g = some (v, g') ∧ Inv k' g'
/-- kind -/
def Sim_7 (Inv : KS → (Nat → Nat → Int32) → Prop) : Prop := ∀ (a1 : Int32) (k : KS) (g : Nat → Nat → Int32), Inv k g → ∃ (N N' : Nat) (v : Int32) (k' : KS) (g' : Nat → Nat → Int32), KO_7 N a1 k = some (v, k') ∧ MO_7 N' a1 g = some (v, g') ∧ Inv k' g'
/-- apart -/
def Sim_8 (Inv : KS → (Nat → Nat → Int32) → Prop) : Prop := ∀ (a1 : Int32) (a2 : Int32) (k : KS) (g : Nat → Nat → Int32), Inv k g → ∃ (N N' : Nat) (v : Int32) (k' : KS) (g' : Nat → Nat → Int32), KO_8 N a1 a2 k = some (v, k') ∧ MO_8 N' a1 a2 g = some (v, g') ∧ Inv k' g'
/-- box -/
def Sim_9 (Inv : KS → (Nat → Nat → Int32) → Prop) : Prop := ∀ (a1 : Int32) (a2 : Int32) (k : KS) (g : Nat → Nat → Int32), Inv k g → ∃ (N N' : Nat) (v : Int32) (k' : KS) (g' : Nat → Nat → Int32), KO_9 N a1 a2 k = some (v, k') ∧ MO_9 N' a1 a2 g = some (v, g') ∧ Inv k' g'
/-- at -/
def Sim_10 (Inv : KS → (Nat → Nat → Int32) → Prop) : Prop := ∀ (a1 : Int32) (k : KS) (g : Nat → Nat → Int32), Inv k g → ∃ (N N' : Nat) (v : Int32) (k' : KS) (g' : Nat → Nat → Int32), KO_10 N a1 k = some (v, k') ∧ MO_10 N' a1 g = some (v, g') ∧ Inv k' g'
/-- between -/
def Sim_11 (Inv : KS → (Nat → Nat → Int32) → Prop) : Prop := ∀ (a1 : Int32) (a2 : Int32) (a3 : Int32) (k : KS) (g : Nat → Nat → Int32), Inv k g → ∃ (N N' : Nat) (v : Int32) (k' : KS) (g' : Nat → Nat → Int32), KO_11 N a1 a2 a3 k = some (v, k') ∧ MO_11 N' a1 a2 a3 g = some (v, g') ∧ Inv k' g'
/-- far -/
def Sim_12 (Inv : KS → (Nat → Nat → Int32) → Prop) : Prop := ∀ (a1 : Int32) (a2 : Int32) (a3 : Int32) (k : KS) (g : Nat → Nat → Int32), Inv k g → ∃ (N N' : Nat) (v : Int32) (k' : KS) (g' : Nat → Nat → Int32), KO_12 N a1 a2 a3 k = some (v, k') ∧ MO_12 N' a1 a2 a3 g = some (v, g') ∧ Inv k' g'
/-- why -/
def Sim_13 (Inv : KS → (Nat → Nat → Int32) → Prop) : Prop := ∀ (a1 : Int32) (a2 : Int32) (k : KS) (g : Nat → Nat → Int32), Inv k g → ∃ (N N' : Nat) (v : Int32) (k' : KS) (g' : Nat → Nat → Int32), KO_13 N a1 a2 k = some (v, k') ∧ MO_13 N' a1 a2 g = some (v, g') ∧ Inv k' g'
/-- nearIn -/
def Sim_14 (Inv : KS → (Nat → Nat → Int32) → Prop) : Prop := ∀ (a1 : Int32) (a2 : Int32) (k : KS) (g : Nat → Nat → Int32), Inv k g → ∃ (N N' : Nat) (v : Int32) (k' : KS) (g' : Nat → Nat → Int32), KO_14 N a1 a2 k = some (v, k') ∧ MO_14 N' a1 a2 g = some (v, g') ∧ Inv k' g'
/-- may -/
def Sim_15 (Inv : KS → (Nat → Nat → Int32) → Prop) : Prop := ∀ (a1 : Int32) (a2 : Int32) (k : KS) (g : Nat → Nat → Int32), Inv k g → ∃ (N N' : Nat) (v : Int32) (k' : KS) (g' : Nat → Nat → Int32), KO_15 N a1 a2 k = some (v, k') ∧ MO_15 N' a1 a2 g = some (v, g') ∧ Inv k' g'
/-- puts -/
def Sim_16 (Inv : KS → (Nat → Nat → Int32) → Prop) : Prop := ∀ (a1 : Int32) (a2 : Int32) (k : KS) (g : Nat → Nat → Int32), Inv k g → ∃ (N N' : Nat) (v : Int32) (k' : KS) (g' : Nat → Nat → Int32), KO_16 N a1 a2 k = some (v, k') ∧ MO_16 N' a1 a2 g = some (v, g') ∧ Inv k' g'
/-- lifts -/
def Sim_17 (Inv : KS → (Nat → Nat → Int32) → Prop) : Prop := ∀ (a1 : Int32) (k : KS) (g : Nat → Nat → Int32), Inv k g → ∃ (N N' : Nat) (v : Int32) (k' : KS) (g' : Nat → Nat → Int32), KO_17 N a1 k = some (v, k') ∧ MO_17 N' a1 g = some (v, g') ∧ Inv k' g'
/-- opens -/
def Sim_18 (Inv : KS → (Nat → Nat → Int32) → Prop) : Prop := ∀ (a1 : Int32) (a2 : Int32) (k : KS) (g : Nat → Nat → Int32), Inv k g → ∃ (N N' : Nat) (v : Int32) (k' : KS) (g' : Nat → Nat → Int32), KO_18 N a1 a2 k = some (v, k') ∧ MO_18 N' a1 a2 g = some (v, g') ∧ Inv k' g'
/-- books -/
def Sim_19 (Inv : KS → (Nat → Nat → Int32) → Prop) : Prop := ∀ (a1 : Int32) (a2 : Int32) (a3 : Int32) (k : KS) (g : Nat → Nat → Int32), Inv k g → ∃ (N N' : Nat) (v : Int32) (k' : KS) (g' : Nat → Nat → Int32), KO_19 N a1 a2 a3 k = some (v, k') ∧ MO_19 N' a1 a2 a3 g = some (v, g') ∧ Inv k' g'
/-- near -/
def Sim_20 (Inv : KS → (Nat → Nat → Int32) → Prop) : Prop := ∀ (a1 : Int32) (k : KS) (g : Nat → Nat → Int32), Inv k g → ∃ (N N' : Nat) (v : Int32) (k' : KS) (g' : Nat → Nat → Int32), KO_20 N a1 k = some (v, k') ∧ MO_20 N' a1 g = some (v, g') ∧ Inv k' g'
/-- nearTo -/
def Sim_21 (Inv : KS → (Nat → Nat → Int32) → Prop) : Prop := ∀ (a1 : Int32) (k : KS) (g : Nat → Nat → Int32), Inv k g → ∃ (N N' : Nat) (v : Int32) (k' : KS) (g' : Nat → Nat → Int32), KO_21 N a1 k = some (v, k') ∧ MO_21 N' a1 g = some (v, g') ∧ Inv k' g'
/-- doors -/
def Sim_22 (Inv : KS → (Nat → Nat → Int32) → Prop) : Prop := ∀ (a1 : Int32) (k : KS) (g : Nat → Nat → Int32), Inv k g → ∃ (N N' : Nat) (v : Int32) (k' : KS) (g' : Nat → Nat → Int32), KO_22 N a1 k = some (v, k') ∧ MO_22 N' a1 g = some (v, g') ∧ Inv k' g'
/-- weighs -/
def Sim_23 (Inv : KS → (Nat → Nat → Int32) → Prop) : Prop := ∀ (a1 : Int32) (a2 : Int32) (a3 : Int32) (k : KS) (g : Nat → Nat → Int32), Inv k g → ∃ (N N' : Nat) (v : Int32) (k' : KS) (g' : Nat → Nat → Int32), KO_23 N a1 a2 a3 k = some (v, k') ∧ MO_23 N' a1 a2 a3 g = some (v, g') ∧ Inv k' g'
/-- lean -/
def Sim_24 (Inv : KS → (Nat → Nat → Int32) → Prop) : Prop := ∀ (a1 : Int32) (k : KS) (g : Nat → Nat → Int32), Inv k g → ∃ (N N' : Nat) (v : Int64) (k' : KS) (g' : Nat → Nat → Int32), KO_24 N a1 k = some (v, k') ∧ MO_24 N' a1 g = some (v, g') ∧ Inv k' g'
/-- over -/
def Sim_25 (Inv : KS → (Nat → Nat → Int32) → Prop) : Prop := ∀ (k : KS) (g : Nat → Nat → Int32), Inv k g → ∃ (N N' : Nat) (v : Int32) (k' : KS) (g' : Nat → Nat → Int32), KO_25 N k = some (v, k') ∧ MO_25 N' g = some (v, g') ∧ Inv k' g'
/-- restows -/
def Sim_26 (Inv : KS → (Nat → Nat → Int32) → Prop) : Prop := ∀ (a1 : Int32) (k : KS) (g : Nat → Nat → Int32), Inv k g → ∃ (N N' : Nat) (v : Int32) (k' : KS) (g' : Nat → Nat → Int32), KO_26 N a1 k = some (v, k') ∧ MO_26 N' a1 g = some (v, g') ∧ Inv k' g'
/-- load -/
def Sim_27 (Inv : KS → (Nat → Nat → Int32) → Prop) : Prop := ∀ (a1 : Int32) (k : KS) (g : Nat → Nat → Int32), Inv k g → ∃ (N N' : Nat) (v : Int32) (k' : KS) (g' : Nat → Nat → Int32), KO_27 N a1 k = some (v, k') ∧ MO_27 N' a1 g = some (v, g') ∧ Inv k' g'
/-- effort -/
def Sim_28 (Inv : KS → (Nat → Nat → Int32) → Prop) : Prop := ∀ (a1 : Int32) (k : KS) (g : Nat → Nat → Int32), Inv k g → ∃ (N N' : Nat) (v : Int32) (k' : KS) (g' : Nat → Nat → Int32), KO_28 N a1 k = some (v, k') ∧ MO_28 N' a1 g = some (v, g') ∧ Inv k' g'
/-- greedy -/
def Sim_29 (Inv : KS → (Nat → Nat → Int32) → Prop) : Prop := ∀ (k : KS) (g : Nat → Nat → Int32), Inv k g → ∃ (N N' : Nat) (v : Int32) (k' : KS) (g' : Nat → Nat → Int32), KO_29 N k = some (v, k') ∧ MO_29 N' g = some (v, g') ∧ Inv k' g'
/-- told -/
def Sim_30 (Inv : KS → (Nat → Nat → Int32) → Prop) : Prop := ∀ (a1 : Int32) (k : KS) (g : Nat → Nat → Int32), Inv k g → ∃ (N N' : Nat) (v : Int32) (k' : KS) (g' : Nat → Nat → Int32), KO_30 N a1 k = some (v, k') ∧ MO_30 N' a1 g = some (v, g') ∧ Inv k' g'
/-- takes -/
def Sim_31 (Inv : KS → (Nat → Nat → Int32) → Prop) : Prop := ∀ (k : KS) (g : Nat → Nat → Int32), Inv k g → ∃ (N N' : Nat) (v : Int32) (k' : KS) (g' : Nat → Nat → Int32), KO_31 N k = some (v, k') ∧ MO_31 N' g = some (v, g') ∧ Inv k' g'
/-- loads -/
def Sim_32 (Inv : KS → (Nat → Nat → Int32) → Prop) : Prop := ∀ (k : KS) (g : Nat → Nat → Int32), Inv k g → ∃ (N N' : Nat) (v : Int32) (k' : KS) (g' : Nat → Nat → Int32), KO_32 N k = some (v, k') ∧ MO_32 N' g = some (v, g') ∧ Inv k' g'
/-- shifts -/
def Sim_33 (Inv : KS → (Nat → Nat → Int32) → Prop) : Prop := ∀ (a1 : Int32) (a2 : Int32) (a3 : Int32) (k : KS) (g : Nat → Nat → Int32), Inv k g → ∃ (N N' : Nat) (v : Int32) (k' : KS) (g' : Nat → Nat → Int32), KO_33 N a1 a2 a3 k = some (v, k') ∧ MO_33 N' a1 a2 a3 g = some (v, g') ∧ Inv k' g'
/-- shift -/
def Sim_34 (Inv : KS → (Nat → Nat → Int32) → Prop) : Prop := ∀ (a1 : Int32) (a2 : Int32) (k : KS) (g : Nat → Nat → Int32), Inv k g → ∃ (N N' : Nat) (v : Int32) (k' : KS) (g' : Nat → Nat → Int32), KO_34 N a1 a2 k = some (v, k') ∧ MO_34 N' a1 a2 g = some (v, g') ∧ Inv k' g'
/-- ways -/
def Sim_35 (Inv : KS → (Nat → Nat → Int32) → Prop) : Prop := ∀ (a1 : Int32) (k : KS) (g : Nat → Nat → Int32), Inv k g → ∃ (N N' : Nat) (v : Int64) (k' : KS) (g' : Nat → Nat → Int32), KO_35 N a1 k = some (v, k') ∧ MO_35 N' a1 g = some (v, g') ∧ Inv k' g'
/-- span -/
def Sim_36 (Inv : KS → (Nat → Nat → Int32) → Prop) : Prop := ∀ (k : KS) (g : Nat → Nat → Int32), Inv k g → ∃ (N N' : Nat) (v : Int32) (k' : KS) (g' : Nat → Nat → Int32), KO_36 N k = some (v, k') ∧ MO_36 N' g = some (v, g') ∧ Inv k' g'
/-- bayOf -/
def Sim_37 (Inv : KS → (Nat → Nat → Int32) → Prop) : Prop := ∀ (a1 : Int32) (a2 : Int32) (k : KS) (g : Nat → Nat → Int32), Inv k g → ∃ (N N' : Nat) (v : Int32) (k' : KS) (g' : Nat → Nat → Int32), KO_37 N a1 a2 k = some (v, k') ∧ MO_37 N' a1 a2 g = some (v, g') ∧ Inv k' g'
/-- hang -/
def Sim_38 (Inv : KS → (Nat → Nat → Int32) → Prop) : Prop := ∀ (a1 : Int32) (k : KS) (g : Nat → Nat → Int32), Inv k g → ∃ (N N' : Nat) (v : Int32) (k' : KS) (g' : Nat → Nat → Int32), KO_38 N a1 k = some (v, k') ∧ MO_38 N' a1 g = some (v, g') ∧ Inv k' g'
/-- clears -/
def Sim_39 (Inv : KS → (Nat → Nat → Int32) → Prop) : Prop := ∀ (k : KS) (g : Nat → Nat → Int32), Inv k g → ∃ (N N' : Nat) (v : Int32) (k' : KS) (g' : Nat → Nat → Int32), KO_39 N k = some (v, k') ∧ MO_39 N' g = some (v, g') ∧ Inv k' g'
/-- undo -/
def Sim_40 (Inv : KS → (Nat → Nat → Int32) → Prop) : Prop := ∀ (k : KS) (g : Nat → Nat → Int32), Inv k g → ∃ (N N' : Nat) (v : Int32) (k' : KS) (g' : Nat → Nat → Int32), KO_40 N k = some (v, k') ∧ MO_40 N' g = some (v, g') ∧ Inv k' g'
/-- tell -/
def Sim_41 (Inv : KS → (Nat → Nat → Int32) → Prop) : Prop := ∀ (a1 : Int32) (k : KS) (g : Nat → Nat → Int32), Inv k g → ∃ (N N' : Nat) (v : Int32) (k' : KS) (g' : Nat → Nat → Int32), KO_41 N a1 k = some (v, k') ∧ MO_41 N' a1 g = some (v, g') ∧ Inv k' g'
/-- octet -/
def Sim_42 (Inv : KS → (Nat → Nat → Int32) → Prop) : Prop := ∀ (a1 : Int32) (k : KS) (g : Nat → Nat → Int32), Inv k g → ∃ (N N' : Nat) (v : Int32) (k' : KS) (g' : Nat → Nat → Int32), KO_42 N a1 k = some (v, k') ∧ MO_42 N' a1 g = some (v, g') ∧ Inv k' g'
/-- stack -/
def Sim_43 (Inv : KS → (Nat → Nat → Int32) → Prop) : Prop := ∀ (a1 : Int32) (a2 : Int32) (a3 : Int32) (a4 : Int32) (k : KS) (g : Nat → Nat → Int32), Inv k g → ∃ (N N' : Nat) (v : Int32) (k' : KS) (g' : Nat → Nat → Int32), KO_43 N a1 a2 a3 a4 k = some (v, k') ∧ MO_43 N' a1 a2 a3 a4 g = some (v, g') ∧ Inv k' g'
/-- kindsIn -/
def Sim_44 (Inv : KS → (Nat → Nat → Int32) → Prop) : Prop := ∀ (a1 : Int32) (k : KS) (g : Nat → Nat → Int32), Inv k g → ∃ (N N' : Nat) (v : Int32) (k' : KS) (g' : Nat → Nat → Int32), KO_44 N a1 k = some (v, k') ∧ MO_44 N' a1 g = some (v, g') ∧ Inv k' g'
/-- free -/
def Sim_45 (Inv : KS → (Nat → Nat → Int32) → Prop) : Prop := ∀ (a1 : Int32) (k : KS) (g : Nat → Nat → Int32), Inv k g → ∃ (N N' : Nat) (v : Int32) (k' : KS) (g' : Nat → Nat → Int32), KO_45 N a1 k = some (v, k') ∧ MO_45 N' a1 g = some (v, g') ∧ Inv k' g'
/-- loosest -/
def Sim_46 (Inv : KS → (Nat → Nat → Int32) → Prop) : Prop := ∀ (a1 : Int32) (k : KS) (g : Nat → Nat → Int32), Inv k g → ∃ (N N' : Nat) (v : Int32) (k' : KS) (g' : Nat → Nat → Int32), KO_46 N a1 k = some (v, k') ∧ MO_46 N' a1 g = some (v, g') ∧ Inv k' g'
/-- voyage -/
def Sim_47 (Inv : KS → (Nat → Nat → Int32) → Prop) : Prop := ∀ (a1 : Int32) (k : KS) (g : Nat → Nat → Int32), Inv k g → ∃ (N N' : Nat) (v : Int32) (k' : KS) (g' : Nat → Nat → Int32), KO_47 N a1 k = some (v, k') ∧ MO_47 N' a1 g = some (v, g') ∧ Inv k' g'
/-- clear -/
def Sim_48 (Inv : KS → (Nat → Nat → Int32) → Prop) : Prop := ∀ (a1 : Int32) (a2 : Int32) (k : KS) (g : Nat → Nat → Int32), Inv k g → ∃ (N N' : Nat) (v : Int32) (k' : KS) (g' : Nat → Nat → Int32), KO_48 N a1 a2 k = some (v, k') ∧ MO_48 N' a1 a2 g = some (v, g') ∧ Inv k' g'
/-- swaps -/
def Sim_49 (Inv : KS → (Nat → Nat → Int32) → Prop) : Prop := ∀ (a1 : Int32) (a2 : Int32) (k : KS) (g : Nat → Nat → Int32), Inv k g → ∃ (N N' : Nat) (v : Int32) (k' : KS) (g' : Nat → Nat → Int32), KO_49 N a1 a2 k = some (v, k') ∧ MO_49 N' a1 a2 g = some (v, g') ∧ Inv k' g'
/-- steady -/
def Sim_50 (Inv : KS → (Nat → Nat → Int32) → Prop) : Prop := ∀ (k : KS) (g : Nat → Nat → Int32), Inv k g → ∃ (N N' : Nat) (v : Int32) (k' : KS) (g' : Nat → Nat → Int32), KO_50 N k = some (v, k') ∧ MO_50 N' g = some (v, g') ∧ Inv k' g'
/-- label -/
def Sim_51 (Inv : KS → (Nat → Nat → Int32) → Prop) : Prop := ∀ (a1 : Int32) (k : KS) (g : Nat → Nat → Int32), Inv k g → ∃ (N N' : Nat) (v : Int32) (k' : KS) (g' : Nat → Nat → Int32), KO_51 N a1 k = some (v, k') ∧ MO_51 N' a1 g = some (v, g') ∧ Inv k' g'
def lw_Sim (Inv : KS → (Nat → Nat → Int32) → Prop) : Prop := Sim_0 Inv ∧ Sim_1 Inv ∧ Sim_2 Inv ∧ Sim_3 Inv ∧ Sim_4 Inv ∧ Sim_5 Inv ∧ Sim_6 Inv ∧ Sim_7 Inv ∧ Sim_8 Inv ∧ Sim_9 Inv ∧ Sim_10 Inv ∧ Sim_11 Inv ∧ Sim_12 Inv ∧ Sim_13 Inv ∧ Sim_14 Inv ∧ Sim_15 Inv ∧ Sim_16 Inv ∧ Sim_17 Inv ∧ Sim_18 Inv ∧ Sim_19 Inv ∧ Sim_20 Inv ∧ Sim_21 Inv ∧ Sim_22 Inv ∧ Sim_23 Inv ∧ Sim_24 Inv ∧ Sim_25 Inv ∧ Sim_26 Inv ∧ Sim_27 Inv ∧ Sim_28 Inv ∧ Sim_29 Inv ∧ Sim_30 Inv ∧ Sim_31 Inv ∧ Sim_32 Inv ∧ Sim_33 Inv ∧ Sim_34 Inv ∧ Sim_35 Inv ∧ Sim_36 Inv ∧ Sim_37 Inv ∧ Sim_38 Inv ∧ Sim_39 Inv ∧ Sim_40 Inv ∧ Sim_41 Inv ∧ Sim_42 Inv ∧ Sim_43 Inv ∧ Sim_44 Inv ∧ Sim_45 Inv ∧ Sim_46 Inv ∧ Sim_47 Inv ∧ Sim_48 Inv ∧ Sim_49 Inv ∧ Sim_50 Inv ∧ Sim_51 Inv
theorem lw_ln {X : Nat × (Nat → Int32)} (b : Bool) {pc : Nat} {lo : List (Option Value)} {st : List Value} {k : KS} {g : Nat → Nat → Int32} {q : Nat × Value × Nat × Nat × Nat} (hat : sv_at M_law.2.2.2.2 pc = some (q.1, .arraylength, q.2)) : sv_stps X M_law.2.2.2.2 1 (pc, lo, .ref 999 :: st, LWo b k g) = some (pc + 1, lo, .int (Int32.ofNat X.1) :: st, LWo b k g) := by
  unfold sv_stps sv_stp
  rw [hat]
  dsimp only
  rw [lw_al]
  rfl
theorem lw_le {L i : Nat} (hL : L ≤ 3072) (hi : i ≤ 4000) (h : ¬ nI L - 6 < nI i) : i + 6 ≤ L := by
  have h1 : (nI L - nI 6).toInt = (L : Int) - 6 := pk_sub_toInt (by omega) (by omega)
  have h2 : ¬ (nI L - nI 6).toInt < (nI i).toInt := fun z => h (Int32.lt_iff_toInt_lt.mpr z)
  rw [h1, nI_toInt (by omega)] at h2
  omega
theorem lw_gt {L i : Nat} (hL : L ≤ 3072) (hi : i ≤ 4000) (h : i + 6 ≤ L) : ¬ nI L - 6 < nI i := by
  have h1 : (nI L - nI 6).toInt = (L : Int) - 6 := pk_sub_toInt (by omega) (by omega)
  intro z
  have h2 : (nI L - nI 6).toInt < (nI i).toInt := Int32.lt_iff_toInt_lt.mp z
  rw [h1, nI_toInt (by omega)] at h2
  omega
theorem lw_six (i : Nat) : nI i + 6 = nI (i + 6) := nI_add i 6
def sl_P (X : Nat × (Nat → Int32)) (σ : sv_S) : Prop := ∃ cs', sv_End X 60 M_law (some (.int 1), cs') σ
theorem sl_P.q {X : Nat × (Nat → Int32)} {σ τ : sv_S} (h : sv_Q X 60 M_law σ (some ()) (fun _ σ' => σ' = τ)) (hn : sl_P X τ) : sl_P X σ := by
  obtain ⟨cs', he⟩ := hn
  exact ⟨cs', h () rfl _ (fun σ' hσ => by rw [hσ]; exact he)⟩
theorem sl_P.w {X : Nat × (Nat → Int32)} {σ σ' : sv_S} {P : Prop} {k : Option Nat} (h : sv_sw M_law.2.2.2.2 σ k = some (P, σ')) (hp : P) (hn : sl_P X σ') : sl_P X σ := by
  obtain ⟨cs', he⟩ := hn
  exact ⟨cs', sv_End.w h hp he⟩
theorem sl_P.s {X : Nat × (Nat → Int32)} {σ σ' : sv_S} (k : Nat) (h : sv_stps X M_law.2.2.2.2 k σ = some σ') (hn : sl_P X σ') : sl_P X σ := by
  obtain ⟨cs', he⟩ := hn
  exact ⟨cs', sv_End.s h he⟩
set_option maxHeartbeats 8000000 in
set_option maxRecDepth 100000 in
theorem lw_switch (Inv : KS → (Nat → Nat → Int32) → Prop) (hS : lw_Sim Inv) {X : Nat × (Nat → Int32)} (hL : X.1 ≤ 3072) (i : Nat) (hi : i + 6 ≤ X.1) (next : ∀ b k g, Inv k g → sl_P X (1654, [some (.ref 999), some (.ref 0), some (.ref 67), some (.int (nI i))], [], LWo b k g)) (b : Bool) (k : KS) (g : Nat → Nat → Int32) (hI : Inv k g) (w : Int32) : sl_P X (33, [some (.ref 999), some (.ref 0), some (.ref 67), some (.int (nI i))], [.int w], LWo b k g) := by
  by_cases c0 : w = 0
  · obtain ⟨N, N', v, k', g', h1, h2, h3⟩ := hS.1 (X.2 (nI i + nI 1).toNatClampNeg) (X.2 (nI i + nI 2).toNatClampNeg) (X.2 (nI i + nI 3).toNatClampNeg) (X.2 (nI i + nI 4).toNatClampNeg) (X.2 (nI i + nI 5).toNatClampNeg) k g hI
    refine sl_P.w (σ' := (256, [some (.ref 999), some (.ref 0), some (.ref 67), some (.int (nI i))], [], LWo b k g)) (P := (¬ w.toInt < 0 ∧ ¬ 51 < w.toInt ∧ (w.toInt - 0).toNat = 0) ∧ (0 : Int) ≤ 256) (k := some 0) rfl ⟨by rw [c0]; decide, by decide⟩ ?_
    exact sl_P.q (lc_0 hL b k k' g g' i N N' v hi h1 h2) (next _ _ _ h3)
  by_cases c1 : w = 1
  · obtain ⟨N, N', v, k', g', h1, h2, h3⟩ := hS.2.1 (X.2 (nI i + nI 1).toNatClampNeg) k g hI
    refine sl_P.w (σ' := (319, [some (.ref 999), some (.ref 0), some (.ref 67), some (.int (nI i))], [], LWo b k g)) (P := (¬ w.toInt < 0 ∧ ¬ 51 < w.toInt ∧ (w.toInt - 0).toNat = 1) ∧ (0 : Int) ≤ 319) (k := some 1) rfl ⟨by rw [c1]; decide, by decide⟩ ?_
    exact sl_P.q (lc_1 hL b k k' g g' i N N' v hi h1 h2) (next _ _ _ h3)
  by_cases c2 : w = 2
  · obtain ⟨N, N', v, k', g', s, h1, h2, h3⟩ := hS.2.2.1 k g hI
    refine sl_P.w (σ' := (342, [some (.ref 999), some (.ref 0), some (.ref 67), some (.int (nI i))], [], LWo b k g)) (P := (¬ w.toInt < 0 ∧ ¬ 51 < w.toInt ∧ (w.toInt - 0).toNat = 2) ∧ (0 : Int) ≤ 342) (k := some 2) rfl ⟨by rw [c2]; decide, by decide⟩ ?_
    exact sl_P.q (lc_2 hL b k k' g g' i N N' v s hi h1 h2) (next _ _ _ h3)
  by_cases c3 : w = 3
  · obtain ⟨N, N', v, k', g', h1, h2, h3⟩ := hS.2.2.2.1 (X.2 (nI i + nI 1).toNatClampNeg) k g hI
    refine sl_P.w (σ' := (355, [some (.ref 999), some (.ref 0), some (.ref 67), some (.int (nI i))], [], LWo b k g)) (P := (¬ w.toInt < 0 ∧ ¬ 51 < w.toInt ∧ (w.toInt - 0).toNat = 3) ∧ (0 : Int) ≤ 355) (k := some 3) rfl ⟨by rw [c3]; decide, by decide⟩ ?_
    exact sl_P.q (lc_3 hL b k k' g g' i N N' v hi h1 h2) (next _ _ _ h3)
  by_cases c4 : w = 4
  · obtain ⟨N, N', v, k', g', h1, h2, h3⟩ := hS.2.2.2.2.1 (X.2 (nI i + nI 1).toNatClampNeg) k g hI
    refine sl_P.w (σ' := (378, [some (.ref 999), some (.ref 0), some (.ref 67), some (.int (nI i))], [], LWo b k g)) (P := (¬ w.toInt < 0 ∧ ¬ 51 < w.toInt ∧ (w.toInt - 0).toNat = 4) ∧ (0 : Int) ≤ 378) (k := some 4) rfl ⟨by rw [c4]; decide, by decide⟩ ?_
    exact sl_P.q (lc_4 hL b k k' g g' i N N' v hi h1 h2) (next _ _ _ h3)
  by_cases c5 : w = 5
  · obtain ⟨N, N', v, k', g', h1, h2, h3⟩ := hS.2.2.2.2.2.1 (X.2 (nI i + nI 1).toNatClampNeg) k g hI
    refine sl_P.w (σ' := (401, [some (.ref 999), some (.ref 0), some (.ref 67), some (.int (nI i))], [], LWo b k g)) (P := (¬ w.toInt < 0 ∧ ¬ 51 < w.toInt ∧ (w.toInt - 0).toNat = 5) ∧ (0 : Int) ≤ 401) (k := some 5) rfl ⟨by rw [c5]; decide, by decide⟩ ?_
    exact sl_P.q (lc_5 hL b k k' g g' i N N' v hi h1 h2) (next _ _ _ h3)
  by_cases c6 : w = 6
  · obtain ⟨N, N', v, k', g', h1, h2, h3⟩ := hS.2.2.2.2.2.2.1 (X.2 (nI i + nI 1).toNatClampNeg) (X.2 (nI i + nI 2).toNatClampNeg) k g hI
    refine sl_P.w (σ' := (424, [some (.ref 999), some (.ref 0), some (.ref 67), some (.int (nI i))], [], LWo b k g)) (P := (¬ w.toInt < 0 ∧ ¬ 51 < w.toInt ∧ (w.toInt - 0).toNat = 6) ∧ (0 : Int) ≤ 424) (k := some 6) rfl ⟨by rw [c6]; decide, by decide⟩ ?_
    exact sl_P.q (lc_6 hL b k k' g g' i N N' v hi h1 h2) (next _ _ _ h3)
  by_cases c7 : w = 7
  · obtain ⟨N, N', v, k', g', h1, h2, h3⟩ := hS.2.2.2.2.2.2.2.1 (X.2 (nI i + nI 1).toNatClampNeg) k g hI
    refine sl_P.w (σ' := (457, [some (.ref 999), some (.ref 0), some (.ref 67), some (.int (nI i))], [], LWo b k g)) (P := (¬ w.toInt < 0 ∧ ¬ 51 < w.toInt ∧ (w.toInt - 0).toNat = 7) ∧ (0 : Int) ≤ 457) (k := some 7) rfl ⟨by rw [c7]; decide, by decide⟩ ?_
    exact sl_P.q (lc_7 hL b k k' g g' i N N' v hi h1 h2) (next _ _ _ h3)
  by_cases c8 : w = 8
  · obtain ⟨N, N', v, k', g', h1, h2, h3⟩ := hS.2.2.2.2.2.2.2.2.1 (X.2 (nI i + nI 1).toNatClampNeg) (X.2 (nI i + nI 2).toNatClampNeg) k g hI
    refine sl_P.w (σ' := (480, [some (.ref 999), some (.ref 0), some (.ref 67), some (.int (nI i))], [], LWo b k g)) (P := (¬ w.toInt < 0 ∧ ¬ 51 < w.toInt ∧ (w.toInt - 0).toNat = 8) ∧ (0 : Int) ≤ 480) (k := some 8) rfl ⟨by rw [c8]; decide, by decide⟩ ?_
    exact sl_P.q (lc_8 hL b k k' g g' i N N' v hi h1 h2) (next _ _ _ h3)
  by_cases c9 : w = 9
  · obtain ⟨N, N', v, k', g', h1, h2, h3⟩ := hS.2.2.2.2.2.2.2.2.2.1 (X.2 (nI i + nI 1).toNatClampNeg) (X.2 (nI i + nI 2).toNatClampNeg) k g hI
    refine sl_P.w (σ' := (513, [some (.ref 999), some (.ref 0), some (.ref 67), some (.int (nI i))], [], LWo b k g)) (P := (¬ w.toInt < 0 ∧ ¬ 51 < w.toInt ∧ (w.toInt - 0).toNat = 9) ∧ (0 : Int) ≤ 513) (k := some 9) rfl ⟨by rw [c9]; decide, by decide⟩ ?_
    exact sl_P.q (lc_9 hL b k k' g g' i N N' v hi h1 h2) (next _ _ _ h3)
  by_cases c10 : w = 10
  · obtain ⟨N, N', v, k', g', h1, h2, h3⟩ := hS.2.2.2.2.2.2.2.2.2.2.1 (X.2 (nI i + nI 1).toNatClampNeg) k g hI
    refine sl_P.w (σ' := (546, [some (.ref 999), some (.ref 0), some (.ref 67), some (.int (nI i))], [], LWo b k g)) (P := (¬ w.toInt < 0 ∧ ¬ 51 < w.toInt ∧ (w.toInt - 0).toNat = 10) ∧ (0 : Int) ≤ 546) (k := some 10) rfl ⟨by rw [c10]; decide, by decide⟩ ?_
    exact sl_P.q (lc_10 hL b k k' g g' i N N' v hi h1 h2) (next _ _ _ h3)
  by_cases c11 : w = 11
  · obtain ⟨N, N', v, k', g', h1, h2, h3⟩ := hS.2.2.2.2.2.2.2.2.2.2.2.1 (X.2 (nI i + nI 1).toNatClampNeg) (X.2 (nI i + nI 2).toNatClampNeg) (X.2 (nI i + nI 3).toNatClampNeg) k g hI
    refine sl_P.w (σ' := (569, [some (.ref 999), some (.ref 0), some (.ref 67), some (.int (nI i))], [], LWo b k g)) (P := (¬ w.toInt < 0 ∧ ¬ 51 < w.toInt ∧ (w.toInt - 0).toNat = 11) ∧ (0 : Int) ≤ 569) (k := some 11) rfl ⟨by rw [c11]; decide, by decide⟩ ?_
    exact sl_P.q (lc_11 hL b k k' g g' i N N' v hi h1 h2) (next _ _ _ h3)
  by_cases c12 : w = 12
  · obtain ⟨N, N', v, k', g', h1, h2, h3⟩ := hS.2.2.2.2.2.2.2.2.2.2.2.2.1 (X.2 (nI i + nI 1).toNatClampNeg) (X.2 (nI i + nI 2).toNatClampNeg) (X.2 (nI i + nI 3).toNatClampNeg) k g hI
    refine sl_P.w (σ' := (612, [some (.ref 999), some (.ref 0), some (.ref 67), some (.int (nI i))], [], LWo b k g)) (P := (¬ w.toInt < 0 ∧ ¬ 51 < w.toInt ∧ (w.toInt - 0).toNat = 12) ∧ (0 : Int) ≤ 612) (k := some 12) rfl ⟨by rw [c12]; decide, by decide⟩ ?_
    exact sl_P.q (lc_12 hL b k k' g g' i N N' v hi h1 h2) (next _ _ _ h3)
  by_cases c13 : w = 13
  · obtain ⟨N, N', v, k', g', h1, h2, h3⟩ := hS.2.2.2.2.2.2.2.2.2.2.2.2.2.1 (X.2 (nI i + nI 1).toNatClampNeg) (X.2 (nI i + nI 2).toNatClampNeg) k g hI
    refine sl_P.w (σ' := (655, [some (.ref 999), some (.ref 0), some (.ref 67), some (.int (nI i))], [], LWo b k g)) (P := (¬ w.toInt < 0 ∧ ¬ 51 < w.toInt ∧ (w.toInt - 0).toNat = 13) ∧ (0 : Int) ≤ 655) (k := some 13) rfl ⟨by rw [c13]; decide, by decide⟩ ?_
    exact sl_P.q (lc_13 hL b k k' g g' i N N' v hi h1 h2) (next _ _ _ h3)
  by_cases c14 : w = 14
  · obtain ⟨N, N', v, k', g', h1, h2, h3⟩ := hS.2.2.2.2.2.2.2.2.2.2.2.2.2.2.1 (X.2 (nI i + nI 1).toNatClampNeg) (X.2 (nI i + nI 2).toNatClampNeg) k g hI
    refine sl_P.w (σ' := (688, [some (.ref 999), some (.ref 0), some (.ref 67), some (.int (nI i))], [], LWo b k g)) (P := (¬ w.toInt < 0 ∧ ¬ 51 < w.toInt ∧ (w.toInt - 0).toNat = 14) ∧ (0 : Int) ≤ 688) (k := some 14) rfl ⟨by rw [c14]; decide, by decide⟩ ?_
    exact sl_P.q (lc_14 hL b k k' g g' i N N' v hi h1 h2) (next _ _ _ h3)
  by_cases c15 : w = 15
  · obtain ⟨N, N', v, k', g', h1, h2, h3⟩ := hS.2.2.2.2.2.2.2.2.2.2.2.2.2.2.2.1 (X.2 (nI i + nI 1).toNatClampNeg) (X.2 (nI i + nI 2).toNatClampNeg) k g hI
    refine sl_P.w (σ' := (721, [some (.ref 999), some (.ref 0), some (.ref 67), some (.int (nI i))], [], LWo b k g)) (P := (¬ w.toInt < 0 ∧ ¬ 51 < w.toInt ∧ (w.toInt - 0).toNat = 15) ∧ (0 : Int) ≤ 721) (k := some 15) rfl ⟨by rw [c15]; decide, by decide⟩ ?_
    exact sl_P.q (lc_15 hL b k k' g g' i N N' v hi h1 h2) (next _ _ _ h3)
  by_cases c16 : w = 16
  · obtain ⟨N, N', v, k', g', h1, h2, h3⟩ := hS.2.2.2.2.2.2.2.2.2.2.2.2.2.2.2.2.1 (X.2 (nI i + nI 1).toNatClampNeg) (X.2 (nI i + nI 2).toNatClampNeg) k g hI
    refine sl_P.w (σ' := (754, [some (.ref 999), some (.ref 0), some (.ref 67), some (.int (nI i))], [], LWo b k g)) (P := (¬ w.toInt < 0 ∧ ¬ 51 < w.toInt ∧ (w.toInt - 0).toNat = 16) ∧ (0 : Int) ≤ 754) (k := some 16) rfl ⟨by rw [c16]; decide, by decide⟩ ?_
    exact sl_P.q (lc_16 hL b k k' g g' i N N' v hi h1 h2) (next _ _ _ h3)
  by_cases c17 : w = 17
  · obtain ⟨N, N', v, k', g', h1, h2, h3⟩ := hS.2.2.2.2.2.2.2.2.2.2.2.2.2.2.2.2.2.1 (X.2 (nI i + nI 1).toNatClampNeg) k g hI
    refine sl_P.w (σ' := (787, [some (.ref 999), some (.ref 0), some (.ref 67), some (.int (nI i))], [], LWo b k g)) (P := (¬ w.toInt < 0 ∧ ¬ 51 < w.toInt ∧ (w.toInt - 0).toNat = 17) ∧ (0 : Int) ≤ 787) (k := some 17) rfl ⟨by rw [c17]; decide, by decide⟩ ?_
    exact sl_P.q (lc_17 hL b k k' g g' i N N' v hi h1 h2) (next _ _ _ h3)
  by_cases c18 : w = 18
  · obtain ⟨N, N', v, k', g', h1, h2, h3⟩ := hS.2.2.2.2.2.2.2.2.2.2.2.2.2.2.2.2.2.2.1 (X.2 (nI i + nI 1).toNatClampNeg) (X.2 (nI i + nI 2).toNatClampNeg) k g hI
    refine sl_P.w (σ' := (810, [some (.ref 999), some (.ref 0), some (.ref 67), some (.int (nI i))], [], LWo b k g)) (P := (¬ w.toInt < 0 ∧ ¬ 51 < w.toInt ∧ (w.toInt - 0).toNat = 18) ∧ (0 : Int) ≤ 810) (k := some 18) rfl ⟨by rw [c18]; decide, by decide⟩ ?_
    exact sl_P.q (lc_18 hL b k k' g g' i N N' v hi h1 h2) (next _ _ _ h3)
  by_cases c19 : w = 19
  · obtain ⟨N, N', v, k', g', h1, h2, h3⟩ := hS.2.2.2.2.2.2.2.2.2.2.2.2.2.2.2.2.2.2.2.1 (X.2 (nI i + nI 1).toNatClampNeg) (X.2 (nI i + nI 2).toNatClampNeg) (X.2 (nI i + nI 3).toNatClampNeg) k g hI
    refine sl_P.w (σ' := (843, [some (.ref 999), some (.ref 0), some (.ref 67), some (.int (nI i))], [], LWo b k g)) (P := (¬ w.toInt < 0 ∧ ¬ 51 < w.toInt ∧ (w.toInt - 0).toNat = 19) ∧ (0 : Int) ≤ 843) (k := some 19) rfl ⟨by rw [c19]; decide, by decide⟩ ?_
    exact sl_P.q (lc_19 hL b k k' g g' i N N' v hi h1 h2) (next _ _ _ h3)
  by_cases c20 : w = 20
  · obtain ⟨N, N', v, k', g', h1, h2, h3⟩ := hS.2.2.2.2.2.2.2.2.2.2.2.2.2.2.2.2.2.2.2.2.1 (X.2 (nI i + nI 1).toNatClampNeg) k g hI
    refine sl_P.w (σ' := (886, [some (.ref 999), some (.ref 0), some (.ref 67), some (.int (nI i))], [], LWo b k g)) (P := (¬ w.toInt < 0 ∧ ¬ 51 < w.toInt ∧ (w.toInt - 0).toNat = 20) ∧ (0 : Int) ≤ 886) (k := some 20) rfl ⟨by rw [c20]; decide, by decide⟩ ?_
    exact sl_P.q (lc_20 hL b k k' g g' i N N' v hi h1 h2) (next _ _ _ h3)
  by_cases c21 : w = 21
  · obtain ⟨N, N', v, k', g', h1, h2, h3⟩ := hS.2.2.2.2.2.2.2.2.2.2.2.2.2.2.2.2.2.2.2.2.2.1 (X.2 (nI i + nI 1).toNatClampNeg) k g hI
    refine sl_P.w (σ' := (909, [some (.ref 999), some (.ref 0), some (.ref 67), some (.int (nI i))], [], LWo b k g)) (P := (¬ w.toInt < 0 ∧ ¬ 51 < w.toInt ∧ (w.toInt - 0).toNat = 21) ∧ (0 : Int) ≤ 909) (k := some 21) rfl ⟨by rw [c21]; decide, by decide⟩ ?_
    exact sl_P.q (lc_21 hL b k k' g g' i N N' v hi h1 h2) (next _ _ _ h3)
  by_cases c22 : w = 22
  · obtain ⟨N, N', v, k', g', h1, h2, h3⟩ := hS.2.2.2.2.2.2.2.2.2.2.2.2.2.2.2.2.2.2.2.2.2.2.1 (X.2 (nI i + nI 1).toNatClampNeg) k g hI
    refine sl_P.w (σ' := (932, [some (.ref 999), some (.ref 0), some (.ref 67), some (.int (nI i))], [], LWo b k g)) (P := (¬ w.toInt < 0 ∧ ¬ 51 < w.toInt ∧ (w.toInt - 0).toNat = 22) ∧ (0 : Int) ≤ 932) (k := some 22) rfl ⟨by rw [c22]; decide, by decide⟩ ?_
    exact sl_P.q (lc_22 hL b k k' g g' i N N' v hi h1 h2) (next _ _ _ h3)
  by_cases c23 : w = 23
  · obtain ⟨N, N', v, k', g', h1, h2, h3⟩ := hS.2.2.2.2.2.2.2.2.2.2.2.2.2.2.2.2.2.2.2.2.2.2.2.1 (X.2 (nI i + nI 1).toNatClampNeg) (X.2 (nI i + nI 2).toNatClampNeg) (X.2 (nI i + nI 3).toNatClampNeg) k g hI
    refine sl_P.w (σ' := (955, [some (.ref 999), some (.ref 0), some (.ref 67), some (.int (nI i))], [], LWo b k g)) (P := (¬ w.toInt < 0 ∧ ¬ 51 < w.toInt ∧ (w.toInt - 0).toNat = 23) ∧ (0 : Int) ≤ 955) (k := some 23) rfl ⟨by rw [c23]; decide, by decide⟩ ?_
    exact sl_P.q (lc_23 hL b k k' g g' i N N' v hi h1 h2) (next _ _ _ h3)
  by_cases c24 : w = 24
  · obtain ⟨N, N', v, k', g', h1, h2, h3⟩ := hS.2.2.2.2.2.2.2.2.2.2.2.2.2.2.2.2.2.2.2.2.2.2.2.2.1 (X.2 (nI i + nI 1).toNatClampNeg) k g hI
    refine sl_P.w (σ' := (998, [some (.ref 999), some (.ref 0), some (.ref 67), some (.int (nI i))], [], LWo b k g)) (P := (¬ w.toInt < 0 ∧ ¬ 51 < w.toInt ∧ (w.toInt - 0).toNat = 24) ∧ (0 : Int) ≤ 998) (k := some 24) rfl ⟨by rw [c24]; decide, by decide⟩ ?_
    exact sl_P.q (lc_24 hL b k k' g g' i N N' v hi h1 h2) (next _ _ _ h3)
  by_cases c25 : w = 25
  · obtain ⟨N, N', v, k', g', h1, h2, h3⟩ := hS.2.2.2.2.2.2.2.2.2.2.2.2.2.2.2.2.2.2.2.2.2.2.2.2.2.1 k g hI
    refine sl_P.w (σ' := (1022, [some (.ref 999), some (.ref 0), some (.ref 67), some (.int (nI i))], [], LWo b k g)) (P := (¬ w.toInt < 0 ∧ ¬ 51 < w.toInt ∧ (w.toInt - 0).toNat = 25) ∧ (0 : Int) ≤ 1022) (k := some 25) rfl ⟨by rw [c25]; decide, by decide⟩ ?_
    exact sl_P.q (lc_25 hL b k k' g g' i N N' v hi h1 h2) (next _ _ _ h3)
  by_cases c26 : w = 26
  · obtain ⟨N, N', v, k', g', h1, h2, h3⟩ := hS.2.2.2.2.2.2.2.2.2.2.2.2.2.2.2.2.2.2.2.2.2.2.2.2.2.2.1 (X.2 (nI i + nI 1).toNatClampNeg) k g hI
    refine sl_P.w (σ' := (1035, [some (.ref 999), some (.ref 0), some (.ref 67), some (.int (nI i))], [], LWo b k g)) (P := (¬ w.toInt < 0 ∧ ¬ 51 < w.toInt ∧ (w.toInt - 0).toNat = 26) ∧ (0 : Int) ≤ 1035) (k := some 26) rfl ⟨by rw [c26]; decide, by decide⟩ ?_
    exact sl_P.q (lc_26 hL b k k' g g' i N N' v hi h1 h2) (next _ _ _ h3)
  by_cases c27 : w = 27
  · obtain ⟨N, N', v, k', g', h1, h2, h3⟩ := hS.2.2.2.2.2.2.2.2.2.2.2.2.2.2.2.2.2.2.2.2.2.2.2.2.2.2.2.1 (X.2 (nI i + nI 1).toNatClampNeg) k g hI
    refine sl_P.w (σ' := (1058, [some (.ref 999), some (.ref 0), some (.ref 67), some (.int (nI i))], [], LWo b k g)) (P := (¬ w.toInt < 0 ∧ ¬ 51 < w.toInt ∧ (w.toInt - 0).toNat = 27) ∧ (0 : Int) ≤ 1058) (k := some 27) rfl ⟨by rw [c27]; decide, by decide⟩ ?_
    exact sl_P.q (lc_27 hL b k k' g g' i N N' v hi h1 h2) (next _ _ _ h3)
  by_cases c28 : w = 28
  · obtain ⟨N, N', v, k', g', h1, h2, h3⟩ := hS.2.2.2.2.2.2.2.2.2.2.2.2.2.2.2.2.2.2.2.2.2.2.2.2.2.2.2.2.1 (X.2 (nI i + nI 1).toNatClampNeg) k g hI
    refine sl_P.w (σ' := (1081, [some (.ref 999), some (.ref 0), some (.ref 67), some (.int (nI i))], [], LWo b k g)) (P := (¬ w.toInt < 0 ∧ ¬ 51 < w.toInt ∧ (w.toInt - 0).toNat = 28) ∧ (0 : Int) ≤ 1081) (k := some 28) rfl ⟨by rw [c28]; decide, by decide⟩ ?_
    exact sl_P.q (lc_28 hL b k k' g g' i N N' v hi h1 h2) (next _ _ _ h3)
  by_cases c29 : w = 29
  · obtain ⟨N, N', v, k', g', h1, h2, h3⟩ := hS.2.2.2.2.2.2.2.2.2.2.2.2.2.2.2.2.2.2.2.2.2.2.2.2.2.2.2.2.2.1 k g hI
    refine sl_P.w (σ' := (1104, [some (.ref 999), some (.ref 0), some (.ref 67), some (.int (nI i))], [], LWo b k g)) (P := (¬ w.toInt < 0 ∧ ¬ 51 < w.toInt ∧ (w.toInt - 0).toNat = 29) ∧ (0 : Int) ≤ 1104) (k := some 29) rfl ⟨by rw [c29]; decide, by decide⟩ ?_
    exact sl_P.q (lc_29 hL b k k' g g' i N N' v hi h1 h2) (next _ _ _ h3)
  by_cases c30 : w = 30
  · obtain ⟨N, N', v, k', g', h1, h2, h3⟩ := hS.2.2.2.2.2.2.2.2.2.2.2.2.2.2.2.2.2.2.2.2.2.2.2.2.2.2.2.2.2.2.1 (X.2 (nI i + nI 1).toNatClampNeg) k g hI
    refine sl_P.w (σ' := (1117, [some (.ref 999), some (.ref 0), some (.ref 67), some (.int (nI i))], [], LWo b k g)) (P := (¬ w.toInt < 0 ∧ ¬ 51 < w.toInt ∧ (w.toInt - 0).toNat = 30) ∧ (0 : Int) ≤ 1117) (k := some 30) rfl ⟨by rw [c30]; decide, by decide⟩ ?_
    exact sl_P.q (lc_30 hL b k k' g g' i N N' v hi h1 h2) (next _ _ _ h3)
  by_cases c31 : w = 31
  · obtain ⟨N, N', v, k', g', h1, h2, h3⟩ := hS.2.2.2.2.2.2.2.2.2.2.2.2.2.2.2.2.2.2.2.2.2.2.2.2.2.2.2.2.2.2.2.1 k g hI
    refine sl_P.w (σ' := (1140, [some (.ref 999), some (.ref 0), some (.ref 67), some (.int (nI i))], [], LWo b k g)) (P := (¬ w.toInt < 0 ∧ ¬ 51 < w.toInt ∧ (w.toInt - 0).toNat = 31) ∧ (0 : Int) ≤ 1140) (k := some 31) rfl ⟨by rw [c31]; decide, by decide⟩ ?_
    exact sl_P.q (lc_31 hL b k k' g g' i N N' v hi h1 h2) (next _ _ _ h3)
  by_cases c32 : w = 32
  · obtain ⟨N, N', v, k', g', h1, h2, h3⟩ := hS.2.2.2.2.2.2.2.2.2.2.2.2.2.2.2.2.2.2.2.2.2.2.2.2.2.2.2.2.2.2.2.2.1 k g hI
    refine sl_P.w (σ' := (1153, [some (.ref 999), some (.ref 0), some (.ref 67), some (.int (nI i))], [], LWo b k g)) (P := (¬ w.toInt < 0 ∧ ¬ 51 < w.toInt ∧ (w.toInt - 0).toNat = 32) ∧ (0 : Int) ≤ 1153) (k := some 32) rfl ⟨by rw [c32]; decide, by decide⟩ ?_
    exact sl_P.q (lc_32 hL b k k' g g' i N N' v hi h1 h2) (next _ _ _ h3)
  by_cases c33 : w = 33
  · obtain ⟨N, N', v, k', g', h1, h2, h3⟩ := hS.2.2.2.2.2.2.2.2.2.2.2.2.2.2.2.2.2.2.2.2.2.2.2.2.2.2.2.2.2.2.2.2.2.1 (X.2 (nI i + nI 1).toNatClampNeg) (X.2 (nI i + nI 2).toNatClampNeg) (X.2 (nI i + nI 3).toNatClampNeg) k g hI
    refine sl_P.w (σ' := (1166, [some (.ref 999), some (.ref 0), some (.ref 67), some (.int (nI i))], [], LWo b k g)) (P := (¬ w.toInt < 0 ∧ ¬ 51 < w.toInt ∧ (w.toInt - 0).toNat = 33) ∧ (0 : Int) ≤ 1166) (k := some 33) rfl ⟨by rw [c33]; decide, by decide⟩ ?_
    exact sl_P.q (lc_33 hL b k k' g g' i N N' v hi h1 h2) (next _ _ _ h3)
  by_cases c34 : w = 34
  · obtain ⟨N, N', v, k', g', h1, h2, h3⟩ := hS.2.2.2.2.2.2.2.2.2.2.2.2.2.2.2.2.2.2.2.2.2.2.2.2.2.2.2.2.2.2.2.2.2.2.1 (X.2 (nI i + nI 1).toNatClampNeg) (X.2 (nI i + nI 2).toNatClampNeg) k g hI
    refine sl_P.w (σ' := (1209, [some (.ref 999), some (.ref 0), some (.ref 67), some (.int (nI i))], [], LWo b k g)) (P := (¬ w.toInt < 0 ∧ ¬ 51 < w.toInt ∧ (w.toInt - 0).toNat = 34) ∧ (0 : Int) ≤ 1209) (k := some 34) rfl ⟨by rw [c34]; decide, by decide⟩ ?_
    exact sl_P.q (lc_34 hL b k k' g g' i N N' v hi h1 h2) (next _ _ _ h3)
  by_cases c35 : w = 35
  · obtain ⟨N, N', v, k', g', h1, h2, h3⟩ := hS.2.2.2.2.2.2.2.2.2.2.2.2.2.2.2.2.2.2.2.2.2.2.2.2.2.2.2.2.2.2.2.2.2.2.2.1 (X.2 (nI i + nI 1).toNatClampNeg) k g hI
    refine sl_P.w (σ' := (1242, [some (.ref 999), some (.ref 0), some (.ref 67), some (.int (nI i))], [], LWo b k g)) (P := (¬ w.toInt < 0 ∧ ¬ 51 < w.toInt ∧ (w.toInt - 0).toNat = 35) ∧ (0 : Int) ≤ 1242) (k := some 35) rfl ⟨by rw [c35]; decide, by decide⟩ ?_
    exact sl_P.q (lc_35 hL b k k' g g' i N N' v hi h1 h2) (next _ _ _ h3)
  by_cases c36 : w = 36
  · obtain ⟨N, N', v, k', g', h1, h2, h3⟩ := hS.2.2.2.2.2.2.2.2.2.2.2.2.2.2.2.2.2.2.2.2.2.2.2.2.2.2.2.2.2.2.2.2.2.2.2.2.1 k g hI
    refine sl_P.w (σ' := (1266, [some (.ref 999), some (.ref 0), some (.ref 67), some (.int (nI i))], [], LWo b k g)) (P := (¬ w.toInt < 0 ∧ ¬ 51 < w.toInt ∧ (w.toInt - 0).toNat = 36) ∧ (0 : Int) ≤ 1266) (k := some 36) rfl ⟨by rw [c36]; decide, by decide⟩ ?_
    exact sl_P.q (lc_36 hL b k k' g g' i N N' v hi h1 h2) (next _ _ _ h3)
  by_cases c37 : w = 37
  · obtain ⟨N, N', v, k', g', h1, h2, h3⟩ := hS.2.2.2.2.2.2.2.2.2.2.2.2.2.2.2.2.2.2.2.2.2.2.2.2.2.2.2.2.2.2.2.2.2.2.2.2.2.1 (X.2 (nI i + nI 1).toNatClampNeg) (X.2 (nI i + nI 2).toNatClampNeg) k g hI
    refine sl_P.w (σ' := (1279, [some (.ref 999), some (.ref 0), some (.ref 67), some (.int (nI i))], [], LWo b k g)) (P := (¬ w.toInt < 0 ∧ ¬ 51 < w.toInt ∧ (w.toInt - 0).toNat = 37) ∧ (0 : Int) ≤ 1279) (k := some 37) rfl ⟨by rw [c37]; decide, by decide⟩ ?_
    exact sl_P.q (lc_37 hL b k k' g g' i N N' v hi h1 h2) (next _ _ _ h3)
  by_cases c38 : w = 38
  · obtain ⟨N, N', v, k', g', h1, h2, h3⟩ := hS.2.2.2.2.2.2.2.2.2.2.2.2.2.2.2.2.2.2.2.2.2.2.2.2.2.2.2.2.2.2.2.2.2.2.2.2.2.2.1 (X.2 (nI i + nI 1).toNatClampNeg) k g hI
    refine sl_P.w (σ' := (1312, [some (.ref 999), some (.ref 0), some (.ref 67), some (.int (nI i))], [], LWo b k g)) (P := (¬ w.toInt < 0 ∧ ¬ 51 < w.toInt ∧ (w.toInt - 0).toNat = 38) ∧ (0 : Int) ≤ 1312) (k := some 38) rfl ⟨by rw [c38]; decide, by decide⟩ ?_
    exact sl_P.q (lc_38 hL b k k' g g' i N N' v hi h1 h2) (next _ _ _ h3)
  by_cases c39 : w = 39
  · obtain ⟨N, N', v, k', g', h1, h2, h3⟩ := hS.2.2.2.2.2.2.2.2.2.2.2.2.2.2.2.2.2.2.2.2.2.2.2.2.2.2.2.2.2.2.2.2.2.2.2.2.2.2.2.1 k g hI
    refine sl_P.w (σ' := (1335, [some (.ref 999), some (.ref 0), some (.ref 67), some (.int (nI i))], [], LWo b k g)) (P := (¬ w.toInt < 0 ∧ ¬ 51 < w.toInt ∧ (w.toInt - 0).toNat = 39) ∧ (0 : Int) ≤ 1335) (k := some 39) rfl ⟨by rw [c39]; decide, by decide⟩ ?_
    exact sl_P.q (lc_39 hL b k k' g g' i N N' v hi h1 h2) (next _ _ _ h3)
  by_cases c40 : w = 40
  · obtain ⟨N, N', v, k', g', h1, h2, h3⟩ := hS.2.2.2.2.2.2.2.2.2.2.2.2.2.2.2.2.2.2.2.2.2.2.2.2.2.2.2.2.2.2.2.2.2.2.2.2.2.2.2.2.1 k g hI
    refine sl_P.w (σ' := (1348, [some (.ref 999), some (.ref 0), some (.ref 67), some (.int (nI i))], [], LWo b k g)) (P := (¬ w.toInt < 0 ∧ ¬ 51 < w.toInt ∧ (w.toInt - 0).toNat = 40) ∧ (0 : Int) ≤ 1348) (k := some 40) rfl ⟨by rw [c40]; decide, by decide⟩ ?_
    exact sl_P.q (lc_40 hL b k k' g g' i N N' v hi h1 h2) (next _ _ _ h3)
  by_cases c41 : w = 41
  · obtain ⟨N, N', v, k', g', h1, h2, h3⟩ := hS.2.2.2.2.2.2.2.2.2.2.2.2.2.2.2.2.2.2.2.2.2.2.2.2.2.2.2.2.2.2.2.2.2.2.2.2.2.2.2.2.2.1 (X.2 (nI i + nI 1).toNatClampNeg) k g hI
    refine sl_P.w (σ' := (1361, [some (.ref 999), some (.ref 0), some (.ref 67), some (.int (nI i))], [], LWo b k g)) (P := (¬ w.toInt < 0 ∧ ¬ 51 < w.toInt ∧ (w.toInt - 0).toNat = 41) ∧ (0 : Int) ≤ 1361) (k := some 41) rfl ⟨by rw [c41]; decide, by decide⟩ ?_
    exact sl_P.q (lc_41 hL b k k' g g' i N N' v hi h1 h2) (next _ _ _ h3)
  by_cases c42 : w = 42
  · obtain ⟨N, N', v, k', g', h1, h2, h3⟩ := hS.2.2.2.2.2.2.2.2.2.2.2.2.2.2.2.2.2.2.2.2.2.2.2.2.2.2.2.2.2.2.2.2.2.2.2.2.2.2.2.2.2.2.1 (X.2 (nI i + nI 1).toNatClampNeg) k g hI
    refine sl_P.w (σ' := (1384, [some (.ref 999), some (.ref 0), some (.ref 67), some (.int (nI i))], [], LWo b k g)) (P := (¬ w.toInt < 0 ∧ ¬ 51 < w.toInt ∧ (w.toInt - 0).toNat = 42) ∧ (0 : Int) ≤ 1384) (k := some 42) rfl ⟨by rw [c42]; decide, by decide⟩ ?_
    exact sl_P.q (lc_42 hL b k k' g g' i N N' v hi h1 h2) (next _ _ _ h3)
  by_cases c43 : w = 43
  · obtain ⟨N, N', v, k', g', h1, h2, h3⟩ := hS.2.2.2.2.2.2.2.2.2.2.2.2.2.2.2.2.2.2.2.2.2.2.2.2.2.2.2.2.2.2.2.2.2.2.2.2.2.2.2.2.2.2.2.1 (X.2 (nI i + nI 1).toNatClampNeg) (X.2 (nI i + nI 2).toNatClampNeg) (X.2 (nI i + nI 3).toNatClampNeg) (X.2 (nI i + nI 4).toNatClampNeg) k g hI
    refine sl_P.w (σ' := (1407, [some (.ref 999), some (.ref 0), some (.ref 67), some (.int (nI i))], [], LWo b k g)) (P := (¬ w.toInt < 0 ∧ ¬ 51 < w.toInt ∧ (w.toInt - 0).toNat = 43) ∧ (0 : Int) ≤ 1407) (k := some 43) rfl ⟨by rw [c43]; decide, by decide⟩ ?_
    exact sl_P.q (lc_43 hL b k k' g g' i N N' v hi h1 h2) (next _ _ _ h3)
  by_cases c44 : w = 44
  · obtain ⟨N, N', v, k', g', h1, h2, h3⟩ := hS.2.2.2.2.2.2.2.2.2.2.2.2.2.2.2.2.2.2.2.2.2.2.2.2.2.2.2.2.2.2.2.2.2.2.2.2.2.2.2.2.2.2.2.2.1 (X.2 (nI i + nI 1).toNatClampNeg) k g hI
    refine sl_P.w (σ' := (1460, [some (.ref 999), some (.ref 0), some (.ref 67), some (.int (nI i))], [], LWo b k g)) (P := (¬ w.toInt < 0 ∧ ¬ 51 < w.toInt ∧ (w.toInt - 0).toNat = 44) ∧ (0 : Int) ≤ 1460) (k := some 44) rfl ⟨by rw [c44]; decide, by decide⟩ ?_
    exact sl_P.q (lc_44 hL b k k' g g' i N N' v hi h1 h2) (next _ _ _ h3)
  by_cases c45 : w = 45
  · obtain ⟨N, N', v, k', g', h1, h2, h3⟩ := hS.2.2.2.2.2.2.2.2.2.2.2.2.2.2.2.2.2.2.2.2.2.2.2.2.2.2.2.2.2.2.2.2.2.2.2.2.2.2.2.2.2.2.2.2.2.1 (X.2 (nI i + nI 1).toNatClampNeg) k g hI
    refine sl_P.w (σ' := (1483, [some (.ref 999), some (.ref 0), some (.ref 67), some (.int (nI i))], [], LWo b k g)) (P := (¬ w.toInt < 0 ∧ ¬ 51 < w.toInt ∧ (w.toInt - 0).toNat = 45) ∧ (0 : Int) ≤ 1483) (k := some 45) rfl ⟨by rw [c45]; decide, by decide⟩ ?_
    exact sl_P.q (lc_45 hL b k k' g g' i N N' v hi h1 h2) (next _ _ _ h3)
  by_cases c46 : w = 46
  · obtain ⟨N, N', v, k', g', h1, h2, h3⟩ := hS.2.2.2.2.2.2.2.2.2.2.2.2.2.2.2.2.2.2.2.2.2.2.2.2.2.2.2.2.2.2.2.2.2.2.2.2.2.2.2.2.2.2.2.2.2.2.1 (X.2 (nI i + nI 1).toNatClampNeg) k g hI
    refine sl_P.w (σ' := (1506, [some (.ref 999), some (.ref 0), some (.ref 67), some (.int (nI i))], [], LWo b k g)) (P := (¬ w.toInt < 0 ∧ ¬ 51 < w.toInt ∧ (w.toInt - 0).toNat = 46) ∧ (0 : Int) ≤ 1506) (k := some 46) rfl ⟨by rw [c46]; decide, by decide⟩ ?_
    exact sl_P.q (lc_46 hL b k k' g g' i N N' v hi h1 h2) (next _ _ _ h3)
  by_cases c47 : w = 47
  · obtain ⟨N, N', v, k', g', h1, h2, h3⟩ := hS.2.2.2.2.2.2.2.2.2.2.2.2.2.2.2.2.2.2.2.2.2.2.2.2.2.2.2.2.2.2.2.2.2.2.2.2.2.2.2.2.2.2.2.2.2.2.2.1 (X.2 (nI i + nI 1).toNatClampNeg) k g hI
    refine sl_P.w (σ' := (1529, [some (.ref 999), some (.ref 0), some (.ref 67), some (.int (nI i))], [], LWo b k g)) (P := (¬ w.toInt < 0 ∧ ¬ 51 < w.toInt ∧ (w.toInt - 0).toNat = 47) ∧ (0 : Int) ≤ 1529) (k := some 47) rfl ⟨by rw [c47]; decide, by decide⟩ ?_
    exact sl_P.q (lc_47 hL b k k' g g' i N N' v hi h1 h2) (next _ _ _ h3)
  by_cases c48 : w = 48
  · obtain ⟨N, N', v, k', g', h1, h2, h3⟩ := hS.2.2.2.2.2.2.2.2.2.2.2.2.2.2.2.2.2.2.2.2.2.2.2.2.2.2.2.2.2.2.2.2.2.2.2.2.2.2.2.2.2.2.2.2.2.2.2.2.1 (X.2 (nI i + nI 1).toNatClampNeg) (X.2 (nI i + nI 2).toNatClampNeg) k g hI
    refine sl_P.w (σ' := (1552, [some (.ref 999), some (.ref 0), some (.ref 67), some (.int (nI i))], [], LWo b k g)) (P := (¬ w.toInt < 0 ∧ ¬ 51 < w.toInt ∧ (w.toInt - 0).toNat = 48) ∧ (0 : Int) ≤ 1552) (k := some 48) rfl ⟨by rw [c48]; decide, by decide⟩ ?_
    exact sl_P.q (lc_48 hL b k k' g g' i N N' v hi h1 h2) (next _ _ _ h3)
  by_cases c49 : w = 49
  · obtain ⟨N, N', v, k', g', h1, h2, h3⟩ := hS.2.2.2.2.2.2.2.2.2.2.2.2.2.2.2.2.2.2.2.2.2.2.2.2.2.2.2.2.2.2.2.2.2.2.2.2.2.2.2.2.2.2.2.2.2.2.2.2.2.1 (X.2 (nI i + nI 1).toNatClampNeg) (X.2 (nI i + nI 2).toNatClampNeg) k g hI
    refine sl_P.w (σ' := (1585, [some (.ref 999), some (.ref 0), some (.ref 67), some (.int (nI i))], [], LWo b k g)) (P := (¬ w.toInt < 0 ∧ ¬ 51 < w.toInt ∧ (w.toInt - 0).toNat = 49) ∧ (0 : Int) ≤ 1585) (k := some 49) rfl ⟨by rw [c49]; decide, by decide⟩ ?_
    exact sl_P.q (lc_49 hL b k k' g g' i N N' v hi h1 h2) (next _ _ _ h3)
  by_cases c50 : w = 50
  · obtain ⟨N, N', v, k', g', h1, h2, h3⟩ := hS.2.2.2.2.2.2.2.2.2.2.2.2.2.2.2.2.2.2.2.2.2.2.2.2.2.2.2.2.2.2.2.2.2.2.2.2.2.2.2.2.2.2.2.2.2.2.2.2.2.2.1 k g hI
    refine sl_P.w (σ' := (1618, [some (.ref 999), some (.ref 0), some (.ref 67), some (.int (nI i))], [], LWo b k g)) (P := (¬ w.toInt < 0 ∧ ¬ 51 < w.toInt ∧ (w.toInt - 0).toNat = 50) ∧ (0 : Int) ≤ 1618) (k := some 50) rfl ⟨by rw [c50]; decide, by decide⟩ ?_
    exact sl_P.q (lc_50 hL b k k' g g' i N N' v hi h1 h2) (next _ _ _ h3)
  by_cases c51 : w = 51
  · obtain ⟨N, N', v, k', g', h1, h2, h3⟩ := hS.2.2.2.2.2.2.2.2.2.2.2.2.2.2.2.2.2.2.2.2.2.2.2.2.2.2.2.2.2.2.2.2.2.2.2.2.2.2.2.2.2.2.2.2.2.2.2.2.2.2.2 (X.2 (nI i + nI 1).toNatClampNeg) k g hI
    refine sl_P.w (σ' := (1631, [some (.ref 999), some (.ref 0), some (.ref 67), some (.int (nI i))], [], LWo b k g)) (P := (¬ w.toInt < 0 ∧ ¬ 51 < w.toInt ∧ (w.toInt - 0).toNat = 51) ∧ (0 : Int) ≤ 1631) (k := some 51) rfl ⟨by rw [c51]; decide, by decide⟩ ?_
    exact sl_P.q (lc_51 hL b k k' g g' i N N' v hi h1 h2) (next _ _ _ h3)
  have q0 := sv_ne c0
  have q1 := sv_ne c1
  have q2 := sv_ne c2
  have q3 := sv_ne c3
  have q4 := sv_ne c4
  have q5 := sv_ne c5
  have q6 := sv_ne c6
  have q7 := sv_ne c7
  have q8 := sv_ne c8
  have q9 := sv_ne c9
  have q10 := sv_ne c10
  have q11 := sv_ne c11
  have q12 := sv_ne c12
  have q13 := sv_ne c13
  have q14 := sv_ne c14
  have q15 := sv_ne c15
  have q16 := sv_ne c16
  have q17 := sv_ne c17
  have q18 := sv_ne c18
  have q19 := sv_ne c19
  have q20 := sv_ne c20
  have q21 := sv_ne c21
  have q22 := sv_ne c22
  have q23 := sv_ne c23
  have q24 := sv_ne c24
  have q25 := sv_ne c25
  have q26 := sv_ne c26
  have q27 := sv_ne c27
  have q28 := sv_ne c28
  have q29 := sv_ne c29
  have q30 := sv_ne c30
  have q31 := sv_ne c31
  have q32 := sv_ne c32
  have q33 := sv_ne c33
  have q34 := sv_ne c34
  have q35 := sv_ne c35
  have q36 := sv_ne c36
  have q37 := sv_ne c37
  have q38 := sv_ne c38
  have q39 := sv_ne c39
  have q40 := sv_ne c40
  have q41 := sv_ne c41
  have q42 := sv_ne c42
  have q43 := sv_ne c43
  have q44 := sv_ne c44
  have q45 := sv_ne c45
  have q46 := sv_ne c46
  have q47 := sv_ne c47
  have q48 := sv_ne c48
  have q49 := sv_ne c49
  have q50 := sv_ne c50
  have q51 := sv_ne c51
  have e0 : (0 : Int32).toInt = 0 := by decide
  have e1 : (1 : Int32).toInt = 1 := by decide
  have e2 : (2 : Int32).toInt = 2 := by decide
  have e3 : (3 : Int32).toInt = 3 := by decide
  have e4 : (4 : Int32).toInt = 4 := by decide
  have e5 : (5 : Int32).toInt = 5 := by decide
  have e6 : (6 : Int32).toInt = 6 := by decide
  have e7 : (7 : Int32).toInt = 7 := by decide
  have e8 : (8 : Int32).toInt = 8 := by decide
  have e9 : (9 : Int32).toInt = 9 := by decide
  have e10 : (10 : Int32).toInt = 10 := by decide
  have e11 : (11 : Int32).toInt = 11 := by decide
  have e12 : (12 : Int32).toInt = 12 := by decide
  have e13 : (13 : Int32).toInt = 13 := by decide
  have e14 : (14 : Int32).toInt = 14 := by decide
  have e15 : (15 : Int32).toInt = 15 := by decide
  have e16 : (16 : Int32).toInt = 16 := by decide
  have e17 : (17 : Int32).toInt = 17 := by decide
  have e18 : (18 : Int32).toInt = 18 := by decide
  have e19 : (19 : Int32).toInt = 19 := by decide
  have e20 : (20 : Int32).toInt = 20 := by decide
  have e21 : (21 : Int32).toInt = 21 := by decide
  have e22 : (22 : Int32).toInt = 22 := by decide
  have e23 : (23 : Int32).toInt = 23 := by decide
  have e24 : (24 : Int32).toInt = 24 := by decide
  have e25 : (25 : Int32).toInt = 25 := by decide
  have e26 : (26 : Int32).toInt = 26 := by decide
  have e27 : (27 : Int32).toInt = 27 := by decide
  have e28 : (28 : Int32).toInt = 28 := by decide
  have e29 : (29 : Int32).toInt = 29 := by decide
  have e30 : (30 : Int32).toInt = 30 := by decide
  have e31 : (31 : Int32).toInt = 31 := by decide
  have e32 : (32 : Int32).toInt = 32 := by decide
  have e33 : (33 : Int32).toInt = 33 := by decide
  have e34 : (34 : Int32).toInt = 34 := by decide
  have e35 : (35 : Int32).toInt = 35 := by decide
  have e36 : (36 : Int32).toInt = 36 := by decide
  have e37 : (37 : Int32).toInt = 37 := by decide
  have e38 : (38 : Int32).toInt = 38 := by decide
  have e39 : (39 : Int32).toInt = 39 := by decide
  have e40 : (40 : Int32).toInt = 40 := by decide
  have e41 : (41 : Int32).toInt = 41 := by decide
  have e42 : (42 : Int32).toInt = 42 := by decide
  have e43 : (43 : Int32).toInt = 43 := by decide
  have e44 : (44 : Int32).toInt = 44 := by decide
  have e45 : (45 : Int32).toInt = 45 := by decide
  have e46 : (46 : Int32).toInt = 46 := by decide
  have e47 : (47 : Int32).toInt = 47 := by decide
  have e48 : (48 : Int32).toInt = 48 := by decide
  have e49 : (49 : Int32).toInt = 49 := by decide
  have e50 : (50 : Int32).toInt = 50 := by decide
  have e51 : (51 : Int32).toInt = 51 := by decide
  have hd : w.toInt < 0 ∨ 51 < w.toInt := by omega
  exact sl_P.w (σ' := (1654, [some (.ref 999), some (.ref 0), some (.ref 67), some (.int (nI i))], [], LWo b k g)) (P := (w.toInt < 0 ∨ 51 < w.toInt) ∧ (0 : Int) ≤ 1654) (k := none) rfl ⟨hd, by decide⟩ (next b k g hI)
set_option maxHeartbeats 4000000 in
set_option maxRecDepth 100000 in
theorem lw_loop (Inv : KS → (Nat → Nat → Int32) → Prop) (hS : lw_Sim Inv) {X : Nat × (Nat → Int32)} (hL : X.1 ≤ 3072) : ∀ (n i : Nat), i ≤ 4000 → X.1 + 1 - i ≤ n → ∀ (b : Bool) (k : KS) (g : Nat → Nat → Int32), Inv k g → sl_P X (18, [some (.ref 999), some (.ref 0), some (.ref 67), some (.int (nI i))], [], LWo b k g) := by
  intro n
  induction n with
  | zero =>
    intro i h0 hn b k g hI
    refine sl_P.s (σ' := (20, [some (.ref 999), some (.ref 0), some (.ref 67), some (.int (nI i))], [.ref 999, .int (nI i)], LWo b k g)) 2 rfl ?_
    refine sl_P.s 1 (lw_ln b (q := (20, .null, 0, 0, 0)) rfl) ?_
    refine sl_P.s (σ' := (24, [some (.ref 999), some (.ref 0), some (.ref 67), some (.int (nI i))], [.int (nI X.1 - 6), .int (nI i)], LWo b k g)) 2 rfl ?_
    refine ⟨LWo b k g, sv_End.b (P := nI X.1 - 6 < nI i) rfl (fun _ => ?_) (fun c => ?_)⟩
    · refine sv_End.s (σ' := (1661, [some (.ref 999), some (.ref 0), some (.ref 67), some (.int (nI i))], [.int 1], LWo b k g)) (k := 1) rfl ?_
      exact sv_End.ret (P := sv_01 1) rfl (Or.inr rfl) rfl
    · have := lw_le hL h0 c
      omega
  | succ n ih =>
    intro i h0 hn b k g hI
    refine sl_P.s (σ' := (20, [some (.ref 999), some (.ref 0), some (.ref 67), some (.int (nI i))], [.ref 999, .int (nI i)], LWo b k g)) 2 rfl ?_
    refine sl_P.s 1 (lw_ln b (q := (20, .null, 0, 0, 0)) rfl) ?_
    refine sl_P.s (σ' := (24, [some (.ref 999), some (.ref 0), some (.ref 67), some (.int (nI i))], [.int (nI X.1 - 6), .int (nI i)], LWo b k g)) 2 rfl ?_
    by_cases hi : i + 6 ≤ X.1
    · have hnext : ∀ b k g, Inv k g → sl_P X (1654, [some (.ref 999), some (.ref 0), some (.ref 67), some (.int (nI i))], [], LWo b k g) := by
        intro b k g hI
        refine sl_P.s (σ' := (18, [some (.ref 999), some (.ref 0), some (.ref 67), some (.int (nI i + 6))], [], LWo b k g)) 2 rfl ?_
        rw [lw_six]
        exact ih (i + 6) (by omega) (by omega) b k g hI
      have hgo : sl_P X (27, [some (.ref 999), some (.ref 0), some (.ref 67), some (.int (nI i))], [], LWo b k g) := by
        refine sl_P.s (σ' := (29, [some (.ref 999), some (.ref 0), some (.ref 67), some (.int (nI i))], [.int (nI i), .ref 999], LWo b k g)) 2 rfl ?_
        refine sl_P.q (τ := (30, [some (.ref 999), some (.ref 0), some (.ref 67), some (.int (nI i))], [.int (X.2 (nI i).toNatClampNeg)], LWo b k g)) (lw_rd b (q := (29, .null, 0, 0, 0)) rfl (vp_in_nI (by omega) (by omega)) (sv_Q.z rfl)) ?_
        refine sl_P.s (σ' := (33, [some (.ref 999), some (.ref 0), some (.ref 67), some (.int (nI i))], [.int (X.2 (nI i).toNatClampNeg &&& 63)], LWo b k g)) 2 rfl ?_
        exact lw_switch Inv hS hL i hi hnext b k g hI _
      obtain ⟨cs', he⟩ := hgo
      exact ⟨cs', sv_End.b (P := nI X.1 - 6 < nI i) rfl (fun c => absurd c (lw_gt hL h0 hi)) (fun _ => he)⟩
    · refine ⟨LWo b k g, sv_End.b (P := nI X.1 - 6 < nI i) rfl (fun _ => ?_) (fun c => ?_)⟩
      · refine sv_End.s (σ' := (1661, [some (.ref 999), some (.ref 0), some (.ref 67), some (.int (nI i))], [.int 1], LWo b k g)) (k := 1) rfl ?_
        exact sv_End.ret (P := sv_01 1) rfl (Or.inr rfl) rfl
      · exact absurd (lw_le hL h0 c) hi
