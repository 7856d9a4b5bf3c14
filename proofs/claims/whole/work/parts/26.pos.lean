/-! PRINTED by wip/whole/gen4pos.py: places in tables_1 -/
abbrev ix_pNat : Nat := 940
abbrev ix_pNatS : Nat := 939
abbrev ix_pNatI : Nat := 21
abbrev ix_pObj : Nat := 28
abbrev ix_pObjC : Nat := 29
abbrev ix_pMaxS : Nat := 566
abbrev ix_pMaxC : Nat := 567
abbrev ix_pMinS : Nat := 455
abbrev ix_pMinC : Nat := 456
