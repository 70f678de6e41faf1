def am_code (mi pc : Nat) : Option am_I := ((am_ts.getD mi []).getD (pc / 16) []).getD (pc % 16) none
def am_me (mi : Nat) : am_Me := am_ms.getD mi (⟨"", "", ""⟩, ⟨#[]⟩, 0, none, 0, 0, 0, 0, 0, 0)
