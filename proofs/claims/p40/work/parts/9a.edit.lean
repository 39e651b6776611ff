/-! A new edition: all entries' locators move. -/
def mvE (A B : List Int) (e : EnT) : EnT := (enT e, enP e, enS e, enK e, enA e, enX e, enO e, mvL A B (enL e), mvL A B (enM e))
