/-! methods of the program: words (by program: wip/whole/gen2.py) -/

