/-! more WORDS of the tables, for the constructors and the start: printed by wip/p35/port.py. -/
