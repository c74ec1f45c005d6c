/-! the tables of the evaluator, out of the Statement -/
def e_T0 : u_T := fun k => match k with
  | _ => ("", "", "", false)
def e_T1 : u_T := fun k => match k with
  | 0 => ("TripleStore", "text", "[B", true)
  | 1 => ("TripleStore", "length", "I", false)
  | 2 => ("TripleStore", "terms", "LTripleStore$Terms;", true)
  | 3 => ("TripleStore", "triples", "LTripleStore$Triples;", true)
  | 4 => ("TripleStore", "rules", "LTripleStore$Rules;", true)
  | 5 => ("TripleStore", "tokens", "LTripleStore$Tokens;", true)
  | 6 => ("TripleStore", "parser", "LTripleStore$Parser;", true)
  | 7 => ("TripleStore", "rows", "LTripleStore$Rows;", true)
  | 8 => ("TripleStore", "blocks", "LTripleStore$Blocks;", true)
  | 9 => ("TripleStore", "groups", "LTripleStore$Groups;", true)
  | 10 => ("TripleStore", "buffer", "[B", true)
  | 11 => ("TripleStore", "buffered", "I", false)
  | 12 => ("TripleStore", "foundAt", "I", false)
  | 13 => ("TripleStore", "fault", "I", false)
  | 14 => ("TripleStore", "madeLately", "I", false)
  | 15 => ("TripleStore", "spent", "I", false)
  | 16 => ("TripleStore", "shown", "LTripleStore$Node;", false)
  | _ => ("TripleStore", "shownRows", "I", false)
def e_T2 : u_T := fun k => match k with
  | 0 => ("TripleStore$Terms", "kinds", "[B", true)
  | 1 => ("TripleStore$Terms", "scales", "[B", true)
  | 2 => ("TripleStore$Terms", "lengths", "[B", true)
  | 3 => ("TripleStore$Terms", "extras", "[B", true)
  | 4 => ("TripleStore$Terms", "numbers", "[J", true)
  | 5 => ("TripleStore$Terms", "starts", "[I", true)
  | 6 => ("TripleStore$Terms", "hashes", "[I", true)
  | 7 => ("TripleStore$Terms", "nexts", "[I", true)
  | 8 => ("TripleStore$Terms", "marks", "[I", true)
  | 9 => ("TripleStore$Terms", "heads", "[I", true)
  | 10 => ("TripleStore$Terms", "scratch", "LTripleStore$Value;", true)
  | 11 => ("TripleStore$Terms", "kept", "[B", false)
  | 12 => ("TripleStore$Terms", "loose", "[B", false)
  | 13 => ("TripleStore$Terms", "keptBytes", "I", false)
  | 14 => ("TripleStore$Terms", "looseBytes", "I", false)
  | 15 => ("TripleStore$Terms", "free", "I", false)
  | _ => ("TripleStore$Terms", "numbered", "I", false)
def e_T3 : u_T := fun k => match k with
  | 0 => ("TripleStore$Value", "kind", "I", false)
  | 1 => ("TripleStore$Value", "id", "I", false)
  | 2 => ("TripleStore$Value", "number", "J", false)
  | 3 => ("TripleStore$Value", "scale", "I", false)
  | 4 => ("TripleStore$Value", "text", "[B", true)
  | 5 => ("TripleStore$Value", "length", "I", false)
  | 6 => ("TripleStore$Value", "extra", "[B", true)
  | _ => ("TripleStore$Value", "extraLength", "I", false)
def e_T4 : u_T := fun k => match k with
  | 0 => ("TripleStore$Triples", "keys", "[I", true)
  | 1 => ("TripleStore$Triples", "marks", "[B", true)
  | 2 => ("TripleStore$Triples", "slots", "[I", true)
  | 3 => ("TripleStore$Triples", "heads", "[I", true)
  | 4 => ("TripleStore$Triples", "lengths", "[I", true)
  | 5 => ("TripleStore$Triples", "nexts", "[I", true)
  | 6 => ("TripleStore$Triples", "sorted", "[[I", true)
  | 7 => ("TripleStore$Triples", "starts", "[[I", true)
  | 8 => ("TripleStore$Triples", "spare", "[I", true)
  | 9 => ("TripleStore$Triples", "counters", "[I", true)
  | 10 => ("TripleStore$Triples", "saved", "[I", true)
  | 11 => ("TripleStore$Triples", "savedSize", "I", false)
  | 12 => ("TripleStore$Triples", "arranged", "Z", false)
  | 13 => ("TripleStore$Triples", "size", "I", false)
  | 14 => ("TripleStore$Triples", "sayings", "I", false)
  | 15 => ("TripleStore$Triples", "active", "I", false)
  | 16 => ("TripleStore$Triples", "from", "I", false)
  | 17 => ("TripleStore$Triples", "to", "I", false)
  | _ => ("TripleStore$Triples", "order", "I", false)
def e_T5 : u_T := fun k => match k with
  | 0 => ("TripleStore$Rules", "terms", "LTripleStore$Terms;", true)
  | 1 => ("TripleStore$Rules", "triples", "LTripleStore$Triples;", true)
  | 2 => ("TripleStore$Rules", "parts", "[I", true)
  | 3 => ("TripleStore$Rules", "bodies", "[I", true)
  | 4 => ("TripleStore$Rules", "heads", "[I", true)
  | 5 => ("TripleStore$Rules", "chosen", "[I", true)
  | 6 => ("TripleStore$Rules", "newest", "I", false)
  | 7 => ("TripleStore$Rules", "first", "I", false)
  | 8 => ("TripleStore$Rules", "failed", "Z", false)
  | 9 => ("TripleStore$Rules", "size", "I", false)
  | _ => ("TripleStore$Rules", "choices", "I", false)
def e_T6 : u_T := fun k => match k with
  | 0 => ("TripleStore$Tokens", "text", "[B", true)
  | 1 => ("TripleStore$Tokens", "terms", "LTripleStore$Terms;", true)
  | 2 => ("TripleStore$Tokens", "kinds", "[B", true)
  | 3 => ("TripleStore$Tokens", "codes", "[I", true)
  | 4 => ("TripleStore$Tokens", "places", "[I", true)
  | 5 => ("TripleStore$Tokens", "names", "[B", true)
  | 6 => ("TripleStore$Tokens", "nameLengths", "[I", true)
  | 7 => ("TripleStore$Tokens", "value", "LTripleStore$Value;", true)
  | 8 => ("TripleStore$Tokens", "typed", "LTripleStore$Value;", true)
  | 9 => ("TripleStore$Tokens", "size", "I", false)
  | 10 => ("TripleStore$Tokens", "length", "I", false)
  | 11 => ("TripleStore$Tokens", "at", "I", false)
  | 12 => ("TripleStore$Tokens", "named", "I", false)
  | 13 => ("TripleStore$Tokens", "typeName", "I", false)
  | 14 => ("TripleStore$Tokens", "hand", "I", false)
  | 15 => ("TripleStore$Tokens", "kind", "I", false)
  | 16 => ("TripleStore$Tokens", "code", "I", false)
  | 17 => ("TripleStore$Tokens", "here", "I", false)
  | 18 => ("TripleStore$Tokens", "variables", "I", false)
  | 19 => ("TripleStore$Tokens", "fault", "I", false)
  | _ => ("TripleStore$Tokens", "faultPlace", "I", false)
def e_T7 : u_T := fun k => match k with
  | 0 => ("TripleStore$Parser", "terms", "LTripleStore$Terms;", true)
  | 1 => ("TripleStore$Parser", "values", "[LTripleStore$Value;", true)
  | 2 => ("TripleStore$Parser", "valuesUsed", "I", false)
  | 3 => ("TripleStore$Parser", "nodes", "I", false)
  | 4 => ("TripleStore$Parser", "groups", "I", false)
  | 5 => ("TripleStore$Parser", "lines", "I", false)
  | 6 => ("TripleStore$Parser", "patterns", "I", false)
  | 7 => ("TripleStore$Parser", "given", "I", false)
  | 8 => ("TripleStore$Parser", "steps", "I", false)
  | 9 => ("TripleStore$Parser", "lastBlock", "LTripleStore$Node;", false)
  | 10 => ("TripleStore$Parser", "base", "LTripleStore$Node;", false)
  | 11 => ("TripleStore$Parser", "holder", "LTripleStore$Node;", false)
  | 12 => ("TripleStore$Parser", "open", "LTripleStore$Node;", false)
  | 13 => ("TripleStore$Parser", "operand", "LTripleStore$Node;", false)
  | 14 => ("TripleStore$Parser", "select", "LTripleStore$Node;", false)
  | 15 => ("TripleStore$Parser", "depth", "I", false)
  | 16 => ("TripleStore$Parser", "brackets", "I", false)
  | 17 => ("TripleStore$Parser", "signs", "I", false)
  | 18 => ("TripleStore$Parser", "tested", "Z", false)
  | 19 => ("TripleStore$Parser", "tokens", "LTripleStore$Tokens;", true)
  | 20 => ("TripleStore$Parser", "firstBlock", "LTripleStore$Node;", false)
  | _ => ("TripleStore$Parser", "keyed", "Z", false)
def e_T8 : u_T := fun k => match k with
  | 0 => ("TripleStore$Rows", "terms", "LTripleStore$Terms;", true)
  | 1 => ("TripleStore$Rows", "columns", "[I", true)
  | 2 => ("TripleStore$Rows", "downward", "[Z", true)
  | 3 => ("TripleStore$Rows", "held", "[I", true)
  | 4 => ("TripleStore$Rows", "compared", "I", false)
  | 5 => ("TripleStore$Rows", "cells", "[I", false)
  | 6 => ("TripleStore$Rows", "order", "[I", false)
  | 7 => ("TripleStore$Rows", "spare", "[I", false)
  | 8 => ("TripleStore$Rows", "slots", "[I", false)
  | 9 => ("TripleStore$Rows", "slotMask", "I", false)
  | 10 => ("TripleStore$Rows", "width", "I", false)
  | 11 => ("TripleStore$Rows", "limit", "I", false)
  | 12 => ("TripleStore$Rows", "variables", "I", false)
  | 13 => ("TripleStore$Rows", "top", "I", false)
  | 14 => ("TripleStore$Rows", "made", "I", false)
  | _ => ("TripleStore$Rows", "over", "Z", false)
def e_T9 : u_T := fun k => match k with
  | 0 => ("TripleStore$Blocks", "terms", "LTripleStore$Terms;", true)
  | 1 => ("TripleStore$Blocks", "triples", "LTripleStore$Triples;", true)
  | 2 => ("TripleStore$Blocks", "rows", "LTripleStore$Rows;", true)
  | 3 => ("TripleStore$Blocks", "plan", "[LTripleStore$Node;", true)
  | 4 => ("TripleStore$Blocks", "mine", "[LTripleStore$Node;", true)
  | 5 => ("TripleStore$Blocks", "found", "[J", true)
  | 6 => ("TripleStore$Blocks", "differing", "[I", true)
  | 7 => ("TripleStore$Blocks", "trial", "[I", true)
  | 8 => ("TripleStore$Blocks", "best", "[I", true)
  | 9 => ("TripleStore$Blocks", "stamps", "[I", true)
  | 10 => ("TripleStore$Blocks", "times", "[[I", true)
  | 11 => ("TripleStore$Blocks", "points", "[[I", true)
  | 12 => ("TripleStore$Blocks", "pointCounts", "[I", true)
  | 13 => ("TripleStore$Blocks", "stamp", "I", false)
  | 14 => ("TripleStore$Blocks", "many", "I", false)
  | 15 => ("TripleStore$Blocks", "least", "J", false)
  | _ => ("TripleStore$Blocks", "planned", "I", false)
def e_T10 : u_T := fun k => match k with
  | 0 => ("TripleStore$Expressions", "terms", "LTripleStore$Terms;", true)
  | 1 => ("TripleStore$Expressions", "rows", "LTripleStore$Rows;", true)
  | 2 => ("TripleStore$Expressions", "nothing", "LTripleStore$Value;", true)
  | 3 => ("TripleStore$Expressions", "spare", "LTripleStore$Value;", true)
  | 4 => ("TripleStore$Expressions", "piece", "LTripleStore$Value;", true)
  | 5 => ("TripleStore$Expressions", "limbs", "[J", true)
  | 6 => ("TripleStore$Expressions", "groups", "LTripleStore$Groups;", false)
  | 7 => ("TripleStore$Expressions", "setFrom", "I", false)
  | _ => ("TripleStore$Expressions", "setTo", "I", false)
def e_T11 : u_T := fun k => match k with
  | 0 => ("TripleStore$Groups", "terms", "LTripleStore$Terms;", true)
  | 1 => ("TripleStore$Groups", "rows", "LTripleStore$Rows;", true)
  | 2 => ("TripleStore$Groups", "blocks", "LTripleStore$Blocks;", true)
  | 3 => ("TripleStore$Groups", "expressions", "LTripleStore$Expressions;", true)
  | 4 => ("TripleStore$Groups", "termsMade", "I", false)
  | _ => ("TripleStore$Groups", "bytesMade", "I", false)
def e_T12 : u_T := fun k => match k with
  | 0 => ("TripleStore$Node", "kind", "I", true)
  | 1 => ("TripleStore$Node", "at", "I", false)
  | 2 => ("TripleStore$Node", "variable", "I", false)
  | 3 => ("TripleStore$Node", "subject", "I", false)
  | 4 => ("TripleStore$Node", "verb", "I", false)
  | 5 => ("TripleStore$Node", "object", "I", false)
  | 6 => ("TripleStore$Node", "count", "I", false)
  | 7 => ("TripleStore$Node", "distinct", "Z", false)
  | 8 => ("TripleStore$Node", "star", "Z", false)
  | 9 => ("TripleStore$Node", "negated", "Z", false)
  | 10 => ("TripleStore$Node", "grouped", "Z", false)
  | 11 => ("TripleStore$Node", "list", "[I", false)
  | 12 => ("TripleStore$Node", "size", "I", false)
  | 13 => ("TripleStore$Node", "first", "LTripleStore$Node;", false)
  | 14 => ("TripleStore$Node", "last", "LTripleStore$Node;", false)
  | 15 => ("TripleStore$Node", "next", "LTripleStore$Node;", false)
  | 16 => ("TripleStore$Node", "inner", "LTripleStore$Node;", false)
  | 17 => ("TripleStore$Node", "start", "LTripleStore$Node;", false)
  | 18 => ("TripleStore$Node", "tail", "LTripleStore$Node;", false)
  | 19 => ("TripleStore$Node", "follow", "LTripleStore$Node;", false)
  | 20 => ("TripleStore$Node", "outer", "LTripleStore$Node;", false)
  | _ => ("TripleStore$Node", "value", "LTripleStore$Value;", false)
def e_T13 : u_T := fun k => match k with
  | 0 => ("TripleStoreModel", "terms", "LTripleStoreModel$Terms;", true)
  | 1 => ("TripleStoreModel", "digits", "LTripleStoreModel$Digits;", true)
  | 2 => ("TripleStoreModel", "lexer", "LTripleStoreModel$Lexer;", true)
  | 3 => ("TripleStoreModel", "tree", "LTripleStoreModel$Tree;", true)
  | 4 => ("TripleStoreModel", "store", "LTripleStoreModel$Store;", true)
  | 5 => ("TripleStoreModel", "paths", "LTripleStoreModel$Paths;", true)
  | 6 => ("TripleStoreModel", "reader", "LTripleStoreModel$Reader;", true)
  | 7 => ("TripleStoreModel", "doer", "LTripleStoreModel$Doer;", true)
  | 8 => ("TripleStoreModel", "place", "I", false)
  | 9 => ("TripleStoreModel", "cells", "[I", true)
  | 10 => ("TripleStoreModel", "rows", "I", false)
  | 11 => ("TripleStoreModel", "columns", "I", false)
  | 12 => ("TripleStoreModel", "names", "[B", true)
  | 13 => ("TripleStoreModel", "nameFroms", "[I", true)
  | 14 => ("TripleStoreModel", "shownMade", "I", false)
  | 15 => ("TripleStoreModel", "plan", "[I", true)
  | 16 => ("TripleStoreModel", "planned", "I", false)
  | 17 => ("TripleStoreModel", "given", "[I", true)
  | 18 => ("TripleStoreModel", "givenHeads", "[I", true)
  | 19 => ("TripleStoreModel", "givenNexts", "[I", true)
  | 20 => ("TripleStoreModel", "givenCount", "I", false)
  | 21 => ("TripleStoreModel", "sorted", "[I", true)
  | 22 => ("TripleStoreModel", "before", "[I", true)
  | 23 => ("TripleStoreModel", "beforeCount", "I", false)
  | 24 => ("TripleStoreModel", "beforeTerms", "I", false)
  | 25 => ("TripleStoreModel", "fresh", "[I", true)
  | 26 => ("TripleStoreModel", "freshCount", "I", false)
  | 27 => ("TripleStoreModel", "goes", "[I", true)
  | 28 => ("TripleStoreModel", "shown", "[B", true)
  | _ => ("TripleStoreModel", "shownSize", "I", false)
def e_T14 : u_T := fun k => match k with
  | 0 => ("TripleStoreModel$Terms", "kinds", "[B", true)
  | 1 => ("TripleStoreModel$Terms", "values", "[J", true)
  | 2 => ("TripleStoreModel$Terms", "scales", "[B", true)
  | 3 => ("TripleStoreModel$Terms", "froms", "[I", true)
  | 4 => ("TripleStoreModel$Terms", "sizes", "[I", true)
  | 5 => ("TripleStoreModel$Terms", "borders", "[I", true)
  | 6 => ("TripleStoreModel$Terms", "counted", "[Z", true)
  | 7 => ("TripleStoreModel$Terms", "pool", "[B", true)
  | 8 => ("TripleStoreModel$Terms", "numbered", "I", false)
  | 9 => ("TripleStoreModel$Terms", "used", "I", false)
  | 10 => ("TripleStoreModel$Terms", "brought", "I", false)
  | 11 => ("TripleStoreModel$Terms", "broughtBytes", "I", false)
  | 12 => ("TripleStoreModel$Terms", "made", "I", false)
  | 13 => ("TripleStoreModel$Terms", "madeBytes", "I", false)
  | 14 => ("TripleStoreModel$Terms", "ways", "I", false)
  | 15 => ("TripleStoreModel$Terms", "kind", "I", false)
  | 16 => ("TripleStoreModel$Terms", "value", "J", false)
  | 17 => ("TripleStoreModel$Terms", "scale", "I", false)
  | 18 => ("TripleStoreModel$Terms", "bytes", "[B", true)
  | 19 => ("TripleStoreModel$Terms", "size", "I", false)
  | 20 => ("TripleStoreModel$Terms", "border", "I", false)
  | 21 => ("TripleStoreModel$Terms", "out", "[B", true)
  | _ => ("TripleStoreModel$Terms", "outSize", "I", false)
def e_T15 : u_T := fun k => match k with
  | 0 => ("TripleStoreModel$Digits", "one", "[I", true)
  | 1 => ("TripleStoreModel$Digits", "two", "[I", true)
  | 2 => ("TripleStoreModel$Digits", "row", "[I", true)
  | 3 => ("TripleStoreModel$Digits", "below", "Z", false)
  | 4 => ("TripleStoreModel$Digits", "wholes", "Z", false)
  | 5 => ("TripleStoreModel$Digits", "value", "J", false)
  | 6 => ("TripleStoreModel$Digits", "scale", "I", false)
  | 7 => ("TripleStoreModel$Digits", "above", "[I", true)
  | _ => ("TripleStoreModel$Digits", "under", "[I", true)
def e_T16 : u_T := fun k => match k with
  | 0 => ("TripleStoreModel$Lexer", "terms", "LTripleStoreModel$Terms;", true)
  | 1 => ("TripleStoreModel$Lexer", "text", "[B", true)
  | 2 => ("TripleStoreModel$Lexer", "size", "I", false)
  | 3 => ("TripleStoreModel$Lexer", "at", "I", false)
  | 4 => ("TripleStoreModel$Lexer", "loaded", "Z", false)
  | 5 => ("TripleStoreModel$Lexer", "kind", "I", false)
  | 6 => ("TripleStoreModel$Lexer", "place", "I", false)
  | 7 => ("TripleStoreModel$Lexer", "end", "I", false)
  | 8 => ("TripleStoreModel$Lexer", "term", "I", false)
  | 9 => ("TripleStoreModel$Lexer", "sign", "I", false)
  | 10 => ("TripleStoreModel$Lexer", "behindValue", "Z", false)
  | 11 => ("TripleStoreModel$Lexer", "found", "J", false)
  | 12 => ("TripleStoreModel$Lexer", "foundScale", "I", false)
  | _ => ("TripleStoreModel$Lexer", "foundDot", "Z", false)
def e_T17 : u_T := fun k => match k with
  | 0 => ("TripleStoreModel$Tree", "nameFroms", "[I", true)
  | 1 => ("TripleStoreModel$Tree", "nameTos", "[I", true)
  | 2 => ("TripleStoreModel$Tree", "variables", "I", false)
  | 3 => ("TripleStoreModel$Tree", "operations", "[I", true)
  | 4 => ("TripleStoreModel$Tree", "numbers", "[I", true)
  | 5 => ("TripleStoreModel$Tree", "kids", "[I", true)
  | 6 => ("TripleStoreModel$Tree", "nexts", "[I", true)
  | 7 => ("TripleStoreModel$Tree", "places", "[I", true)
  | 8 => ("TripleStoreModel$Tree", "nodes", "I", false)
  | 9 => ("TripleStoreModel$Tree", "firstParts", "[I", true)
  | 10 => ("TripleStoreModel$Tree", "selectOf", "[I", true)
  | 11 => ("TripleStoreModel$Tree", "unions", "[I", true)
  | 12 => ("TripleStoreModel$Tree", "groups", "I", false)
  | 13 => ("TripleStoreModel$Tree", "partKinds", "[I", true)
  | 14 => ("TripleStoreModel$Tree", "partNexts", "[I", true)
  | 15 => ("TripleStoreModel$Tree", "partOnes", "[I", true)
  | 16 => ("TripleStoreModel$Tree", "partTwos", "[I", true)
  | 17 => ("TripleStoreModel$Tree", "parts", "I", false)
  | 18 => ("TripleStoreModel$Tree", "blockFroms", "[I", true)
  | 19 => ("TripleStoreModel$Tree", "blockTos", "[I", true)
  | 20 => ("TripleStoreModel$Tree", "blocks", "I", false)
  | 21 => ("TripleStoreModel$Tree", "lines", "[I", true)
  | 22 => ("TripleStoreModel$Tree", "linePaths", "[I", true)
  | 23 => ("TripleStoreModel$Tree", "lineCount", "I", false)
  | 24 => ("TripleStoreModel$Tree", "valueVars", "[I", true)
  | 25 => ("TripleStoreModel$Tree", "valueFroms", "[I", true)
  | 26 => ("TripleStoreModel$Tree", "valueWidths", "[I", true)
  | 27 => ("TripleStoreModel$Tree", "givenFroms", "[I", true)
  | 28 => ("TripleStoreModel$Tree", "givenRows", "[I", true)
  | 29 => ("TripleStoreModel$Tree", "given", "[I", true)
  | 30 => ("TripleStoreModel$Tree", "valueSets", "I", false)
  | 31 => ("TripleStoreModel$Tree", "valueVarCount", "I", false)
  | 32 => ("TripleStoreModel$Tree", "givenCount", "I", false)
  | 33 => ("TripleStoreModel$Tree", "distinct", "[Z", true)
  | 34 => ("TripleStoreModel$Tree", "star", "[Z", true)
  | 35 => ("TripleStoreModel$Tree", "grouped", "[Z", true)
  | 36 => ("TripleStoreModel$Tree", "itemFroms", "[I", true)
  | 37 => ("TripleStoreModel$Tree", "itemCounts", "[I", true)
  | 38 => ("TripleStoreModel$Tree", "setFroms", "[I", true)
  | 39 => ("TripleStoreModel$Tree", "setCounts", "[I", true)
  | 40 => ("TripleStoreModel$Tree", "havings", "[I", true)
  | 41 => ("TripleStoreModel$Tree", "keyFroms", "[I", true)
  | 42 => ("TripleStoreModel$Tree", "keyCounts", "[I", true)
  | 43 => ("TripleStoreModel$Tree", "limits", "[I", true)
  | 44 => ("TripleStoreModel$Tree", "offsets", "[I", true)
  | 45 => ("TripleStoreModel$Tree", "bodies", "[I", true)
  | 46 => ("TripleStoreModel$Tree", "columnFroms", "[I", true)
  | 47 => ("TripleStoreModel$Tree", "columnCounts", "[I", true)
  | 48 => ("TripleStoreModel$Tree", "columns", "[I", true)
  | 49 => ("TripleStoreModel$Tree", "columnCount", "I", false)
  | 50 => ("TripleStoreModel$Tree", "selects", "I", false)
  | 51 => ("TripleStoreModel$Tree", "itemVars", "[I", true)
  | 52 => ("TripleStoreModel$Tree", "itemExpressions", "[I", true)
  | 53 => ("TripleStoreModel$Tree", "itemPlaces", "[I", true)
  | 54 => ("TripleStoreModel$Tree", "keys", "[I", true)
  | _ => ("TripleStoreModel$Tree", "turned", "[Z", true)
def e_T18 : u_T := fun k => match k with
  | 0 => ("TripleStoreModel$Store", "terms", "LTripleStoreModel$Terms;", true)
  | 1 => ("TripleStoreModel$Store", "said", "[I", true)
  | 2 => ("TripleStoreModel$Store", "saidCount", "I", false)
  | 3 => ("TripleStoreModel$Store", "row", "[I", true)
  | 4 => ("TripleStoreModel$Store", "count", "I", false)
  | 5 => ("TripleStoreModel$Store", "heads", "[I", true)
  | 6 => ("TripleStoreModel$Store", "nexts", "[I", true)
  | 7 => ("TripleStoreModel$Store", "items", "[I", true)
  | 8 => ("TripleStoreModel$Store", "bodies", "[I", true)
  | 9 => ("TripleStoreModel$Store", "alls", "[I", true)
  | 10 => ("TripleStoreModel$Store", "rules", "I", false)
  | 11 => ("TripleStoreModel$Store", "choices", "I", false)
  | 12 => ("TripleStoreModel$Store", "values", "[I", true)
  | 13 => ("TripleStoreModel$Store", "bound", "[I", true)
  | 14 => ("TripleStoreModel$Store", "places", "[I", true)
  | 15 => ("TripleStoreModel$Store", "sorted", "[I", true)
  | 16 => ("TripleStoreModel$Store", "spare", "[I", true)
  | _ => ("TripleStoreModel$Store", "isSorted", "Z", false)
def e_T19 : u_T := fun k => match k with
  | 0 => ("TripleStoreModel$Paths", "store", "LTripleStoreModel$Store;", true)
  | 1 => ("TripleStoreModel$Paths", "sorts", "[I", true)
  | 2 => ("TripleStoreModel$Paths", "firsts", "[I", true)
  | 3 => ("TripleStoreModel$Paths", "seconds", "[I", true)
  | 4 => ("TripleStoreModel$Paths", "nodes", "I", false)
  | 5 => ("TripleStoreModel$Paths", "names", "[I", true)
  | 6 => ("TripleStoreModel$Paths", "nameCount", "I", false)
  | 7 => ("TripleStoreModel$Paths", "rows", "[J", true)
  | 8 => ("TripleStoreModel$Paths", "deep", "I", false)
  | _ => ("TripleStoreModel$Paths", "around", "I", false)
def e_T20 : u_T := fun k => match k with
  | 0 => ("TripleStoreModel$Reader", "lexer", "LTripleStoreModel$Lexer;", true)
  | 1 => ("TripleStoreModel$Reader", "terms", "LTripleStoreModel$Terms;", true)
  | 2 => ("TripleStoreModel$Reader", "tree", "LTripleStoreModel$Tree;", true)
  | 3 => ("TripleStoreModel$Reader", "paths", "LTripleStoreModel$Paths;", true)
  | 4 => ("TripleStoreModel$Reader", "wrong", "Ljava/lang/IllegalStateException;", true)
  | 5 => ("TripleStoreModel$Reader", "why", "I", false)
  | 6 => ("TripleStoreModel$Reader", "where", "I", false)
  | 7 => ("TripleStoreModel$Reader", "verb", "I", false)
  | 8 => ("TripleStoreModel$Reader", "body", "I", false)
  | 9 => ("TripleStoreModel$Reader", "number", "J", false)
  | 10 => ("TripleStoreModel$Reader", "facts", "[I", true)
  | 11 => ("TripleStoreModel$Reader", "firstFacts", "I", false)
  | 12 => ("TripleStoreModel$Reader", "allFacts", "I", false)
  | 13 => ("TripleStoreModel$Reader", "deep", "I", false)
  | 14 => ("TripleStoreModel$Reader", "brackets", "I", false)
  | 15 => ("TripleStoreModel$Reader", "objects", "I", false)
  | 16 => ("TripleStoreModel$Reader", "mayAggregate", "Z", false)
  | 17 => ("TripleStoreModel$Reader", "inAggregate", "Z", false)
  | 18 => ("TripleStoreModel$Reader", "scope", "I", false)
  | 19 => ("TripleStoreModel$Reader", "stage", "I", false)
  | 20 => ("TripleStoreModel$Reader", "aggregates", "Z", false)
  | 21 => ("TripleStoreModel$Reader", "steps", "I", false)
  | 22 => ("TripleStoreModel$Reader", "pathBrackets", "I", false)
  | 23 => ("TripleStoreModel$Reader", "bracketed", "Z", false)
  | 24 => ("TripleStoreModel$Reader", "headVariables", "J", false)
  | 25 => ("TripleStoreModel$Reader", "inHead", "Z", false)
  | 26 => ("TripleStoreModel$Reader", "uses", "[I", true)
  | 27 => ("TripleStoreModel$Reader", "useCount", "I", false)
  | 28 => ("TripleStoreModel$Reader", "seen", "[I", true)
  | 29 => ("TripleStoreModel$Reader", "silent", "I", false)
  | 30 => ("TripleStoreModel$Reader", "reserved", "I", false)
  | 31 => ("TripleStoreModel$Reader", "keptSeen", "[I", true)
  | _ => ("TripleStoreModel$Reader", "keptCount", "I", false)
def e_T21 : u_T := fun k => match k with
  | 0 => ("TripleStoreModel$Doer", "terms", "LTripleStoreModel$Terms;", true)
  | 1 => ("TripleStoreModel$Doer", "digits", "LTripleStoreModel$Digits;", true)
  | 2 => ("TripleStoreModel$Doer", "store", "LTripleStoreModel$Store;", true)
  | 3 => ("TripleStoreModel$Doer", "paths", "LTripleStoreModel$Paths;", true)
  | 4 => ("TripleStoreModel$Doer", "tree", "LTripleStoreModel$Tree;", true)
  | 5 => ("TripleStoreModel$Doer", "rows", "[I", true)
  | 6 => ("TripleStoreModel$Doer", "made", "I", false)
  | 7 => ("TripleStoreModel$Doer", "left", "I", false)
  | 8 => ("TripleStoreModel$Doer", "tooMuch", "Ljava/lang/IllegalStateException;", true)
  | 9 => ("TripleStoreModel$Doer", "kept", "[I", true)
  | 10 => ("TripleStoreModel$Doer", "keptTop", "I", false)
  | 11 => ("TripleStoreModel$Doer", "setBase", "I", false)
  | 12 => ("TripleStoreModel$Doer", "setTop", "I", false)
  | 13 => ("TripleStoreModel$Doer", "setMarks", "I", false)
  | 14 => ("TripleStoreModel$Doer", "setNumber", "I", false)
  | 15 => ("TripleStoreModel$Doer", "orders", "[I", true)
  | 16 => ("TripleStoreModel$Doer", "free", "I", false)
  | 17 => ("TripleStoreModel$Doer", "seen", "[I", true)
  | 18 => ("TripleStoreModel$Doer", "seenRound", "I", false)
  | 19 => ("TripleStoreModel$Doer", "patterns", "[I", true)
  | 20 => ("TripleStoreModel$Doer", "trial", "[I", true)
  | 21 => ("TripleStoreModel$Doer", "estimates", "[J", true)
  | _ => ("TripleStoreModel$Doer", "many", "I", false)
def e_cl : List vw_C := [("java/lang/IllegalStateException", e_T0, 0), ("TripleStore", e_T1, 18), ("TripleStore$Terms", e_T2, 17), ("TripleStore$Value", e_T3, 8), ("TripleStore$Triples", e_T4, 19), ("TripleStore$Rules", e_T5, 11), ("TripleStore$Tokens", e_T6, 21), ("TripleStore$Parser", e_T7, 22), ("TripleStore$Rows", e_T8, 16), ("TripleStore$Blocks", e_T9, 17), ("TripleStore$Expressions", e_T10, 9), ("TripleStore$Groups", e_T11, 6), ("TripleStore$Node", e_T12, 22), ("TripleStoreModel", e_T13, 30), ("TripleStoreModel$Terms", e_T14, 23), ("TripleStoreModel$Digits", e_T15, 9), ("TripleStoreModel$Lexer", e_T16, 14), ("TripleStoreModel$Tree", e_T17, 56), ("TripleStoreModel$Store", e_T18, 18), ("TripleStoreModel$Paths", e_T19, 10), ("TripleStoreModel$Reader", e_T20, 33), ("TripleStoreModel$Doer", e_T21, 23)]
def e_ats : List FieldType := [.byte, .long, .int, .boolean, (.object "TripleStore$Node"), (.object "TripleStore$Value"), (.array .int)]
def e_ftyL : List (List FieldType) := [[], [(.array .byte), .int, (.object "TripleStore$Terms"), (.object "TripleStore$Triples"), (.object "TripleStore$Rules"), (.object "TripleStore$Tokens"), (.object "TripleStore$Parser"), (.object "TripleStore$Rows"), (.object "TripleStore$Blocks"), (.object "TripleStore$Groups"), (.array .byte), .int, .int, .int, .int, .int, (.object "TripleStore$Node"), .int], [(.array .byte), (.array .byte), (.array .byte), (.array .byte), (.array .long), (.array .int), (.array .int), (.array .int), (.array .int), (.array .int), (.object "TripleStore$Value"), (.array .byte), (.array .byte), .int, .int, .int, .int], [.int, .int, .long, .int, (.array .byte), .int, (.array .byte), .int], [(.array .int), (.array .byte), (.array .int), (.array .int), (.array .int), (.array .int), (.array (.array .int)), (.array (.array .int)), (.array .int), (.array .int), (.array .int), .int, .boolean, .int, .int, .int, .int, .int, .int], [(.object "TripleStore$Terms"), (.object "TripleStore$Triples"), (.array .int), (.array .int), (.array .int), (.array .int), .int, .int, .boolean, .int, .int], [(.array .byte), (.object "TripleStore$Terms"), (.array .byte), (.array .int), (.array .int), (.array .byte), (.array .int), (.object "TripleStore$Value"), (.object "TripleStore$Value"), .int, .int, .int, .int, .int, .int, .int, .int, .int, .int, .int, .int], [(.object "TripleStore$Terms"), (.array (.object "TripleStore$Value")), .int, .int, .int, .int, .int, .int, .int, (.object "TripleStore$Node"), (.object "TripleStore$Node"), (.object "TripleStore$Node"), (.object "TripleStore$Node"), (.object "TripleStore$Node"), (.object "TripleStore$Node"), .int, .int, .int, .boolean, (.object "TripleStore$Tokens"), (.object "TripleStore$Node"), .boolean], [(.object "TripleStore$Terms"), (.array .int), (.array .boolean), (.array .int), .int, (.array .int), (.array .int), (.array .int), (.array .int), .int, .int, .int, .int, .int, .int, .boolean], [(.object "TripleStore$Terms"), (.object "TripleStore$Triples"), (.object "TripleStore$Rows"), (.array (.object "TripleStore$Node")), (.array (.object "TripleStore$Node")), (.array .long), (.array .int), (.array .int), (.array .int), (.array .int), (.array (.array .int)), (.array (.array .int)), (.array .int), .int, .int, .long, .int], [(.object "TripleStore$Terms"), (.object "TripleStore$Rows"), (.object "TripleStore$Value"), (.object "TripleStore$Value"), (.object "TripleStore$Value"), (.array .long), (.object "TripleStore$Groups"), .int, .int], [(.object "TripleStore$Terms"), (.object "TripleStore$Rows"), (.object "TripleStore$Blocks"), (.object "TripleStore$Expressions"), .int, .int], [.int, .int, .int, .int, .int, .int, .int, .boolean, .boolean, .boolean, .boolean, (.array .int), .int, (.object "TripleStore$Node"), (.object "TripleStore$Node"), (.object "TripleStore$Node"), (.object "TripleStore$Node"), (.object "TripleStore$Node"), (.object "TripleStore$Node"), (.object "TripleStore$Node"), (.object "TripleStore$Node"), (.object "TripleStore$Value")], [(.object "TripleStoreModel$Terms"), (.object "TripleStoreModel$Digits"), (.object "TripleStoreModel$Lexer"), (.object "TripleStoreModel$Tree"), (.object "TripleStoreModel$Store"), (.object "TripleStoreModel$Paths"), (.object "TripleStoreModel$Reader"), (.object "TripleStoreModel$Doer"), .int, (.array .int), .int, .int, (.array .byte), (.array .int), .int, (.array .int), .int, (.array .int), (.array .int), (.array .int), .int, (.array .int), (.array .int), .int, .int, (.array .int), .int, (.array .int), (.array .byte), .int], [(.array .byte), (.array .long), (.array .byte), (.array .int), (.array .int), (.array .int), (.array .boolean), (.array .byte), .int, .int, .int, .int, .int, .int, .int, .int, .long, .int, (.array .byte), .int, .int, (.array .byte), .int], [(.array .int), (.array .int), (.array .int), .boolean, .boolean, .long, .int, (.array .int), (.array .int)], [(.object "TripleStoreModel$Terms"), (.array .byte), .int, .int, .boolean, .int, .int, .int, .int, .int, .boolean, .long, .int, .boolean], [(.array .int), (.array .int), .int, (.array .int), (.array .int), (.array .int), (.array .int), (.array .int), .int, (.array .int), (.array .int), (.array .int), .int, (.array .int), (.array .int), (.array .int), (.array .int), .int, (.array .int), (.array .int), .int, (.array .int), (.array .int), .int, (.array .int), (.array .int), (.array .int), (.array .int), (.array .int), (.array .int), .int, .int, .int, (.array .boolean), (.array .boolean), (.array .boolean), (.array .int), (.array .int), (.array .int), (.array .int), (.array .int), (.array .int), (.array .int), (.array .int), (.array .int), (.array .int), (.array .int), (.array .int), (.array .int), .int, .int, (.array .int), (.array .int), (.array .int), (.array .int), (.array .boolean)], [(.object "TripleStoreModel$Terms"), (.array .int), .int, (.array .int), .int, (.array .int), (.array .int), (.array .int), (.array .int), (.array .int), .int, .int, (.array .int), (.array .int), (.array .int), (.array .int), (.array .int), .boolean], [(.object "TripleStoreModel$Store"), (.array .int), (.array .int), (.array .int), .int, (.array .int), .int, (.array .long), .int, .int], [(.object "TripleStoreModel$Lexer"), (.object "TripleStoreModel$Terms"), (.object "TripleStoreModel$Tree"), (.object "TripleStoreModel$Paths"), (.object "java/lang/IllegalStateException"), .int, .int, .int, .int, .long, (.array .int), .int, .int, .int, .int, .int, .boolean, .boolean, .int, .int, .boolean, .int, .int, .boolean, .long, .boolean, (.array .int), .int, (.array .int), .int, .int, (.array .int), .int], [(.object "TripleStoreModel$Terms"), (.object "TripleStoreModel$Digits"), (.object "TripleStoreModel$Store"), (.object "TripleStoreModel$Paths"), (.object "TripleStoreModel$Tree"), (.array .int), .int, .int, (.object "java/lang/IllegalStateException"), (.array .int), .int, .int, .int, .int, .int, (.array .int), .int, (.array .int), .int, (.array .int), (.array .int), (.array .long), .int]]
def e_fty (ci k : Nat) : FieldType := (e_ftyL.getD ci []).getD k .int
def e_owns : List String := ["TripleStoreLaw", "TripleStore", "TripleStore$Terms", "TripleStore$Value", "TripleStore$Expressions", "TripleStore$Groups", "TripleStore$Tokens", "TripleStore$Blocks", "TripleStore$Triples", "TripleStore$Rules", "TripleStore$Parser", "TripleStore$Rows", "java/lang/String", "java/lang/StringLatin1", "java/lang/StringUTF16", "java/util/Arrays", "TripleStore$Node", "java/lang/Integer", "TripleStoreModel", "TripleStoreModel$Terms", "TripleStoreModel$Store", "TripleStoreModel$Reader", "TripleStoreModel$Doer", "TripleStoreModel$Lexer", "TripleStoreModel$Digits", "TripleStoreModel$Tree", "TripleStoreModel$Paths", "java/lang/Throwable", "java/lang/IllegalStateException", "java/lang/RuntimeException", "java/lang/Exception", "jdk/internal/util/Preconditions", "java/lang/Long"]
def e_own (o : Nat) : String := e_owns.getD o ""
def e_mV0 : List e_M := [(⟨"TripleStore", "type", "(JI)I"⟩, prog_1_method_2_code, 5, (some .int), [], 1, 2),
  (⟨"TripleStore", "wipe", "()I"⟩, prog_1_method_3_code, 2, (some .int), [], 1, 0),
  (⟨"TripleStore", "run", "()I"⟩, prog_1_method_4_code, 4, (some .int), [], 1, 0),
  (⟨"TripleStore$Terms", "dropLoose", "()V"⟩, prog_9_method_16_code, 2, none, [], 2, 0),
  (⟨"TripleStore$Rows", "begin", "(III)V"⟩, prog_7_method_2_code, 4, none, [], 11, 3),
  (⟨"TripleStore$Tokens", "read", "(I)V"⟩, prog_10_method_2_code, 4, none, [], 6, 1),
  (⟨"java/lang/String", "length", "()I"⟩, prog_30_method_54_code, 1, (some .int), [], 12, 0),
  (⟨"java/lang/String", "coder", "()B"⟩, prog_30_method_152_code, 1, (some .byte), [], 12, 0),
  (⟨"java/lang/String", "charAt", "(I)C"⟩, prog_30_method_56_code, 2, (some .char), [], 12, 1),
  (⟨"java/lang/String", "isLatin1", "()Z"⟩, prog_30_method_154_code, 1, (some .boolean), [], 12, 0),
  (⟨"TripleStore$Value", "truth", "(I)V"⟩, prog_12_method_4_code, 2, none, [], 3, 1),
  (⟨"TripleStore$Value", "become", "(I)V"⟩, prog_12_method_2_code, 2, none, [], 3, 1),
  (⟨"TripleStore$Terms", "intern", "(LTripleStore$Value;)I"⟩, prog_9_method_8_code, 5, (some .int), [], 2, 1),
  (⟨"TripleStore$Value", "spell", "(ILjava/lang/String;)V"⟩, prog_12_method_8_code, 4, none, [], 3, 2),
  (⟨"TripleStore$Value", "append", "(I)V"⟩, prog_12_method_5_code, 2, none, [], 3, 1),
  (⟨"TripleStore$Value", "appendExtra", "(I)V"⟩, prog_12_method_6_code, 2, none, [], 3, 1),
  (⟨"TripleStore$Value", "numeric", "(IJI)V"⟩, prog_12_method_3_code, 5, none, [], 3, 3),
  (⟨"TripleStore$Value", "copy", "(LTripleStore$Value;)V"⟩, prog_12_method_9_code, 2, none, [], 3, 1),
  (⟨"TripleStore$Value", "takeExtra", "(LTripleStore$Value;)V"⟩, prog_12_method_10_code, 2, none, [], 3, 1),
  (⟨"TripleStore$Tokens", "take", "()V"⟩, prog_10_method_40_code, 1, none, [], 6, 0),
  (⟨"TripleStore$Parser", "statement", "()LTripleStore$Node;"⟩, prog_6_method_2_code, 3, (some (.object "TripleStore$Node")), [], 10, 0),
  (⟨"TripleStore$Tokens", "word", "()I"⟩, prog_10_method_36_code, 1, (some .int), [], 6, 0),
  (⟨"TripleStore$Tokens", "isWord", "(I)Z"⟩, prog_10_method_35_code, 2, (some .boolean), [], 6, 1),
  (⟨"TripleStore$Tokens", "isSign", "(I)Z"⟩, prog_10_method_33_code, 2, (some .boolean), [], 6, 1),
  (⟨"TripleStore$Tokens", "isVariable", "()Z"⟩, prog_10_method_31_code, 1, (some .boolean), [], 6, 0),
  (⟨"TripleStore$Tokens", "fail", "(I)V"⟩, prog_10_method_43_code, 2, none, [], 6, 1),
  (⟨"TripleStore$Tokens", "failAt", "(II)V"⟩, prog_10_method_44_code, 3, none, [], 6, 2),
  (⟨"TripleStore$Node", "add", "(LTripleStore$Node;)LTripleStore$Node;"⟩, prog_5_method_2_code, 2, (some (.object "TripleStore$Node")), [], 16, 1),
  (⟨"TripleStore$Tokens", "variable", "()I"⟩, prog_10_method_46_code, 1, (some .int), [], 6, 0),
  (⟨"TripleStore$Tokens", "expectSign", "(I)V"⟩, prog_10_method_41_code, 2, none, [], 6, 1),
  (⟨"TripleStore$Tokens", "isNode", "()Z"⟩, prog_10_method_32_code, 1, (some .boolean), [], 6, 0),
  (⟨"TripleStore$Tokens", "isTerm", "()Z"⟩, prog_10_method_30_code, 1, (some .boolean), [], 6, 0),
  (⟨"TripleStore$Tokens", "id", "()I"⟩, prog_10_method_37_code, 1, (some .int), [], 6, 0),
  (⟨"TripleStore$Terms", "load", "(ILTripleStore$Value;)V"⟩, prog_9_method_15_code, 5, none, [], 2, 2),
  (⟨"TripleStore$Node", "append", "(LTripleStore$Node;)V"⟩, prog_5_method_3_code, 2, none, [], 16, 1),
  (⟨"TripleStore$Node", "listed", "(I)I"⟩, prog_5_method_5_code, 2, (some .int), [], 16, 1),
  (⟨"TripleStore$Node", "bring", "(I)V"⟩, prog_5_method_7_code, 2, none, [], 16, 1),
  (⟨"TripleStore$Node", "lists", "(I)Z"⟩, prog_5_method_6_code, 3, (some .boolean), [], 16, 1),
  (⟨"TripleStore$Node", "list", "(I)V"⟩, prog_5_method_4_code, 2, none, [], 16, 1),
  (⟨"TripleStore$Tokens", "termKind", "()I"⟩, prog_10_method_38_code, 1, (some .int), [], 6, 0),
  (⟨"TripleStore$Terms", "kindOf", "(I)I"⟩, prog_9_method_4_code, 3, (some .int), [], 2, 1),
  (⟨"TripleStore$Tokens", "nameId", "()I"⟩, prog_10_method_39_code, 1, (some .int), [], 6, 0),
  (⟨"TripleStore$Tokens", "sign", "()I"⟩, prog_10_method_34_code, 1, (some .int), [], 6, 0),
  (⟨"TripleStore$Tokens", "expectWord", "(I)V"⟩, prog_10_method_42_code, 2, none, [], 6, 1),
  (⟨"TripleStore$Terms", "numberIn", "(I)J"⟩, prog_9_method_6_code, 2, (some .long), [], 2, 1),
  (⟨"TripleStore$Tokens", "isNewVariable", "()Z"⟩, prog_10_method_45_code, 1, (some .boolean), [], 6, 0),
  (⟨"TripleStore$Tokens", "isEnd", "()Z"⟩, prog_10_method_29_code, 1, (some .boolean), [], 6, 0),
  (⟨"TripleStore$Groups", "begin", "()V"⟩, prog_4_method_2_code, 1, none, [], 5, 0),
  (⟨"TripleStore$Triples", "arrange", "()V"⟩, prog_11_method_19_code, 4, none, [], 8, 0),
  (⟨"TripleStore$Triples", "keyPart", "(II)I"⟩, prog_11_method_14_code, 3, (some .int), [], 8, 2)]
def e_mV1 : List e_M := [(⟨"TripleStore$Blocks", "planAll", "(LTripleStore$Node;)V"⟩, prog_2_method_3_code, 3, none, [], 7, 1),
  (⟨"TripleStore$Triples", "locateWith", "(III)V"⟩, prog_11_method_26_code, 4, none, [], 8, 3),
  (⟨"TripleStore$Triples", "locate", "(IIIII)V"⟩, prog_11_method_25_code, 9, none, [], 8, 5),
  (⟨"TripleStore$Triples", "part", "(III)I"⟩, prog_11_method_21_code, 4, (some .int), [], 8, 3),
  (⟨"TripleStore$Rows", "spend", "(I)V"⟩, prog_7_method_3_code, 2, none, [], 11, 1),
  (⟨"TripleStore$Rows", "push", "()I"⟩, prog_7_method_7_code, 3, (some .int), [], 11, 0),
  (⟨"TripleStore$Rows", "join", "(II)V"⟩, prog_7_method_12_code, 6, none, [], 11, 2),
  (⟨"TripleStore$Rows", "fit", "(II)Z"⟩, prog_7_method_9_code, 6, (some .boolean), [], 11, 2),
  (⟨"TripleStore$Rows", "get", "(II)I"⟩, prog_7_method_5_code, 4, (some .int), [], 11, 2),
  (⟨"TripleStore$Rows", "pushJoined", "(II)I"⟩, prog_7_method_11_code, 5, (some .int), [], 11, 2),
  (⟨"TripleStore$Rows", "pushCopy", "(I)I"⟩, prog_7_method_8_code, 3, (some .int), [], 11, 1),
  (⟨"TripleStore$Rows", "set", "(III)V"⟩, prog_7_method_6_code, 5, none, [], 11, 3),
  (⟨"TripleStore$Rows", "close", "(II)V"⟩, prog_7_method_13_code, 3, none, [], 11, 2),
  (⟨"TripleStore$Blocks", "plannedAt", "(LTripleStore$Node;I)LTripleStore$Node;"⟩, prog_2_method_10_code, 4, (some (.object "TripleStore$Node")), [], 7, 2),
  (⟨"TripleStore$Blocks", "line", "(LTripleStore$Node;I)V"⟩, prog_2_method_11_code, 5, none, [], 7, 2),
  (⟨"TripleStore$Rows", "resolve", "(II)I"⟩, prog_7_method_15_code, 3, (some .int), [], 11, 2),
  (⟨"TripleStore$Triples", "isPoint", "(I)Z"⟩, prog_11_method_23_code, 2, (some .boolean), [], 8, 1),
  (⟨"TripleStore$Triples", "startOf", "(II)I"⟩, prog_11_method_22_code, 3, (some .int), [], 8, 2),
  (⟨"TripleStore$Value", "asTruth", "()I"⟩, prog_12_method_14_code, 1, (some .int), [], 3, 0),
  (⟨"TripleStore$Value", "isNumber", "()Z"⟩, prog_12_method_12_code, 1, (some .boolean), [], 3, 0),
  (⟨"TripleStore$Node", "worth", "(I)LTripleStore$Value;"⟩, prog_5_method_8_code, 4, (some (.object "TripleStore$Value")), [], 16, 1),
  (⟨"TripleStore$Value", "compareNumber", "(LTripleStore$Value;)I"⟩, prog_12_method_21_code, 3, (some .int), [], 3, 1),
  (⟨"TripleStore$Value", "whole", "()J"⟩, prog_12_method_19_code, 1, (some .long), [], 3, 0),
  (⟨"TripleStore$Value", "billionths", "()J"⟩, prog_12_method_20_code, 1, (some .long), [], 3, 0),
  (⟨"TripleStore$Value", "isSame", "(LTripleStore$Value;)Z"⟩, prog_12_method_16_code, 2, (some .boolean), [], 3, 1),
  (⟨"TripleStore$Rows", "compareVariables", "()V"⟩, prog_7_method_18_code, 1, none, [], 11, 0),
  (⟨"TripleStore$Rows", "sort", "(II)V"⟩, prog_7_method_23_code, 6, none, [], 11, 2),
  (⟨"TripleStore$Terms", "compare", "(II)I"⟩, prog_9_method_22_code, 7, (some .int), [], 2, 2),
  (⟨"TripleStore$Rows", "move", "(II)V"⟩, prog_7_method_14_code, 3, none, [], 11, 2),
  (⟨"TripleStore$Rows", "areAlike", "(II)Z"⟩, prog_7_method_22_code, 4, (some .boolean), [], 11, 2),
  (⟨"TripleStore$Rows", "compareNone", "()V"⟩, prog_7_method_16_code, 1, none, [], 11, 0),
  (⟨"TripleStore$Rows", "compareBy", "(IZ)V"⟩, prog_7_method_17_code, 3, none, [], 11, 2),
  (⟨"TripleStore$Value", "appendAll", "(LTripleStore$Value;)V"⟩, prog_12_method_7_code, 3, none, [], 3, 1),
  (⟨"TripleStore$Value", "string", "(LTripleStore$Value;)V"⟩, prog_12_method_22_code, 2, none, [], 3, 1),
  (⟨"TripleStore$Value", "isPlain", "()Z"⟩, prog_12_method_13_code, 1, (some .boolean), [], 3, 0),
  (⟨"TripleStore$Value", "sameExtra", "(LTripleStore$Value;)Z"⟩, prog_12_method_15_code, 2, (some .boolean), [], 3, 1),
  (⟨"TripleStore$Value", "cut", "(LTripleStore$Value;JJ)V"⟩, prog_12_method_11_code, 7, none, [], 3, 3),
  (⟨"TripleStore$Value", "search", "(LTripleStore$Value;)I"⟩, prog_12_method_18_code, 3, (some .int), [], 3, 1),
  (⟨"TripleStore$Value", "hasAt", "(ILTripleStore$Value;)Z"⟩, prog_12_method_17_code, 5, (some .boolean), [], 3, 2),
  (⟨"TripleStore$Rows", "share", "(II)Z"⟩, prog_7_method_10_code, 4, (some .boolean), [], 11, 2),
  (⟨"TripleStore$Terms", "mark", "(I)Z"⟩, prog_9_method_20_code, 2, (some .boolean), [], 2, 1),
  (⟨"TripleStore$Rows", "beginSeen", "(I)V"⟩, prog_7_method_26_code, 4, none, [], 11, 1),
  (⟨"TripleStore$Rows", "isNew", "(I)Z"⟩, prog_7_method_27_code, 5, (some .boolean), [], 11, 1),
  (⟨"TripleStore$Rows", "compareTriples", "()V"⟩, prog_7_method_19_code, 1, none, [], 11, 0),
  (⟨"TripleStore$Terms", "mayStand", "(II)Z"⟩, prog_9_method_5_code, 4, (some .boolean), [], 2, 2),
  (⟨"TripleStore$Terms", "unmark", "()V"⟩, prog_9_method_19_code, 2, none, [], 2, 0),
  (⟨"TripleStore$Terms", "number", "(I)V"⟩, prog_9_method_17_code, 4, none, [], 2, 1),
  (⟨"TripleStore$Terms", "numberOf", "(I)I"⟩, prog_9_method_21_code, 2, (some .int), [], 2, 1),
  (⟨"TripleStore$Rules", "append", "(LTripleStore$Rows;I)V"⟩, prog_8_method_2_code, 7, none, [], 9, 2),
  (⟨"TripleStore$Triples", "keepSaid", "()V"⟩, prog_11_method_11_code, 3, none, [], 8, 0)]
def e_mV2 : List e_M := [(⟨"TripleStore$Triples", "clear", "()V"⟩, prog_11_method_10_code, 1, none, [], 8, 0),
  (⟨"TripleStore$Triples", "hold", "(IZ)Z"⟩, prog_11_method_7_code, 3, (some .boolean), [], 8, 2),
  (⟨"TripleStore$Rules", "follow", "()Z"⟩, prog_8_method_4_code, 5, (some .boolean), [], 9, 0),
  (⟨"TripleStore$Triples", "activate", "()I"⟩, prog_11_method_15_code, 4, (some .int), [], 8, 0),
  (⟨"TripleStore$Triples", "seek", "(III)I"⟩, prog_11_method_5_code, 4, (some .int), [], 8, 3),
  (⟨"TripleStore$Triples", "activeWith", "(II)I"⟩, prog_11_method_16_code, 3, (some .int), [], 8, 2),
  (⟨"TripleStore$Triples", "latest", "(II)I"⟩, prog_11_method_17_code, 3, (some .int), [], 8, 2),
  (⟨"TripleStore$Triples", "earlier", "(III)I"⟩, prog_11_method_18_code, 4, (some .int), [], 8, 3),
  (⟨"TripleStore$Rules", "drop", "(I)V"⟩, prog_8_method_3_code, 3, none, [], 9, 1),
  (⟨"TripleStore$Terms", "forget", "(I)V"⟩, prog_9_method_18_code, 3, none, [], 2, 1),
  (⟨"TripleStore$Triples", "backUp", "()V"⟩, prog_11_method_12_code, 2, none, [], 8, 0),
  (⟨"TripleStore$Triples", "unsay", "(III)I"⟩, prog_11_method_9_code, 5, (some .int), [], 8, 3),
  (⟨"TripleStore$Triples", "isSaid", "(I)Z"⟩, prog_11_method_6_code, 2, (some .boolean), [], 8, 1),
  (⟨"TripleStore$Triples", "say", "(III)I"⟩, prog_11_method_8_code, 5, (some .int), [], 8, 3),
  (⟨"TripleStore$Triples", "restore", "()V"⟩, prog_11_method_13_code, 2, none, [], 8, 0),
  (⟨"TripleStore", "place", "()I"⟩, prog_1_method_5_code, 1, (some .int), [], 1, 0),
  (⟨"TripleStore", "rows", "()I"⟩, prog_1_method_6_code, 1, (some .int), [], 1, 0),
  (⟨"TripleStore", "columns", "()I"⟩, prog_1_method_7_code, 1, (some .int), [], 1, 0),
  (⟨"TripleStore", "cell", "(II)I"⟩, prog_1_method_8_code, 3, (some .int), [], 1, 2),
  (⟨"TripleStore$Terms", "write", "(I[B)I"⟩, prog_9_method_24_code, 4, (some .int), [], 2, 2),
  (⟨"TripleStore", "column", "(I)I"⟩, prog_1_method_9_code, 2, (some .int), [], 1, 1),
  (⟨"TripleStore$Tokens", "writeVariable", "(I[B)I"⟩, prog_10_method_47_code, 4, (some .int), [], 6, 2),
  (⟨"TripleStore", "written", "(I)I"⟩, prog_1_method_10_code, 2, (some .int), [], 1, 1),
  (⟨"TripleStore", "made", "()I"⟩, prog_1_method_11_code, 1, (some .int), [], 1, 0),
  (⟨"TripleStore", "plan", "(I)I"⟩, prog_1_method_12_code, 2, (some .int), [], 1, 1),
  (⟨"TripleStore$Blocks", "plannedPattern", "(I)I"⟩, prog_2_method_2_code, 2, (some .int), [], 7, 1),
  (⟨"TripleStore", "triples", "()I"⟩, prog_1_method_13_code, 1, (some .int), [], 1, 0),
  (⟨"TripleStore", "said", "()I"⟩, prog_1_method_14_code, 1, (some .int), [], 1, 0),
  (⟨"TripleStore", "terms", "()I"⟩, prog_1_method_15_code, 1, (some .int), [], 1, 0),
  (⟨"TripleStore", "rules", "()I"⟩, prog_1_method_16_code, 1, (some .int), [], 1, 0),
  (⟨"TripleStore", "term", "(I)I"⟩, prog_1_method_17_code, 2, (some .int), [], 1, 1),
  (⟨"TripleStore", "find", "(III)I"⟩, prog_1_method_18_code, 7, (some .int), [], 1, 3),
  (⟨"TripleStore", "count", "(IIIII)I"⟩, prog_1_method_19_code, 7, (some .int), [], 1, 5),
  (⟨"TripleStore$Terms", "isNumber", "(I)Z"⟩, prog_9_method_2_code, 2, (some .boolean), [], 2, 1),
  (⟨"TripleStoreModel", "type", "(JI)I"⟩, prog_14_method_2_code, 5, (some .int), [], 18, 2),
  (⟨"TripleStoreModel", "wipe", "()I"⟩, prog_14_method_3_code, 2, (some .int), [], 18, 0),
  (⟨"TripleStoreModel", "place", "()I"⟩, prog_14_method_4_code, 1, (some .int), [], 18, 0),
  (⟨"TripleStoreModel", "run", "()I"⟩, prog_14_method_5_code, 3, (some .int), [], 18, 0),
  (⟨"TripleStoreModel$Terms", "clear", "()V"⟩, prog_21_method_12_code, 1, none, [], 19, 0),
  (⟨"TripleStoreModel$Reader", "read", "()I"⟩, prog_19_method_87_code, 2, (some .int), [((103 : Nat), (131 : Nat), (134 : Nat), (9 : Nat))], 21, 0),
  (⟨"TripleStoreModel$Tree", "clear", "()V"⟩, prog_22_method_2_code, 1, none, [], 25, 0),
  (⟨"TripleStoreModel$Paths", "clear", "()V"⟩, prog_18_method_2_code, 1, none, [], 26, 0),
  (⟨"TripleStoreModel$Lexer", "begin", "()V"⟩, prog_17_method_2_code, 1, none, [], 23, 0),
  (⟨"TripleStoreModel$Lexer", "look", "()I"⟩, prog_17_method_9_code, 2, (some .int), [], 23, 0),
  (⟨"TripleStoreModel$Terms", "number", "(IJI)V"⟩, prog_21_method_4_code, 5, none, [], 19, 3),
  (⟨"TripleStoreModel$Terms", "begin", "(I)V"⟩, prog_21_method_2_code, 2, none, [], 19, 1),
  (⟨"TripleStoreModel$Terms", "make", "()I"⟩, prog_21_method_7_code, 3, (some .int), [], 19, 0),
  (⟨"TripleStoreModel$Terms", "find", "()I"⟩, prog_21_method_6_code, 2, (some .int), [], 19, 0),
  (⟨"TripleStoreModel$Lexer", "isWordHere", "(Ljava/lang/String;)Z"⟩, prog_17_method_12_code, 3, (some .boolean), [], 23, 1),
  (⟨"TripleStoreModel$Terms", "add", "(I)V"⟩, prog_21_method_3_code, 2, none, [], 19, 1)]
def e_mV3 : List e_M := [(⟨"TripleStoreModel$Lexer", "take", "()V"⟩, prog_17_method_10_code, 1, none, [], 23, 0),
  (⟨"TripleStoreModel$Lexer", "isSign", "(I)Z"⟩, prog_17_method_11_code, 2, (some .boolean), [], 23, 1),
  (⟨"TripleStoreModel$Tree", "node", "(IIII)I"⟩, prog_22_method_3_code, 5, (some .int), [], 25, 4),
  (⟨"TripleStoreModel$Tree", "group", "()I"⟩, prog_22_method_4_code, 1, (some .int), [], 25, 0),
  (⟨"TripleStoreModel$Paths", "make", "(III)I"⟩, prog_18_method_3_code, 4, (some .int), [], 26, 3),
  (⟨"TripleStoreModel$Paths", "name", "(I)V"⟩, prog_18_method_4_code, 2, none, [], 26, 1),
  (⟨"TripleStoreModel$Tree", "part", "(III)I"⟩, prog_22_method_5_code, 4, (some .int), [], 25, 3),
  (⟨"TripleStoreModel$Doer", "begin", "()V"⟩, prog_16_method_2_code, 1, none, [], 22, 0),
  (⟨"TripleStoreModel$Doer", "plan", "(I)V"⟩, prog_16_method_40_code, 8, none, [], 22, 1),
  (⟨"TripleStoreModel$Doer", "patternsOf", "(I)I"⟩, prog_16_method_41_code, 4, (some .int), [], 22, 1),
  (⟨"TripleStoreModel$Doer", "whole", "(I)I"⟩, prog_16_method_15_code, 2, (some .int), [], 22, 1),
  (⟨"TripleStoreModel$Paths", "from", "(IIZ)V"⟩, prog_18_method_17_code, 6, none, [], 26, 3),
  (⟨"TripleStoreModel$Paths", "times", "(I)J"⟩, prog_18_method_18_code, 2, (some .long), [], 26, 1),
  (⟨"TripleStoreModel$Terms", "pass", "()I"⟩, prog_21_method_9_code, 2, (some .int), [], 19, 0),
  (⟨"TripleStoreModel$Terms", "take", "(I)V"⟩, prog_21_method_10_code, 3, none, [], 19, 1),
  (⟨"TripleStoreModel$Terms", "byteOf", "(II)I"⟩, prog_21_method_17_code, 3, (some .int), [], 19, 2),
  (⟨"TripleStoreModel$Terms", "compare", "(II)I"⟩, prog_21_method_24_code, 4, (some .int), [], 19, 2),
  (⟨"TripleStoreModel$Terms", "isNumber", "(I)Z"⟩, prog_21_method_15_code, 2, (some .boolean), [], 19, 1),
  (⟨"TripleStoreModel$Terms", "compareNumbers", "(II)I"⟩, prog_21_method_22_code, 7, (some .int), [], 19, 2),
  (⟨"TripleStoreModel$Terms", "length", "(I)I"⟩, prog_21_method_18_code, 2, (some .int), [], 19, 1),
  (⟨"TripleStoreModel$Digits", "beginSum", "()V"⟩, prog_15_method_10_code, 2, none, [], 24, 0),
  (⟨"TripleStoreModel$Digits", "addUp", "(JI)V"⟩, prog_15_method_11_code, 8, none, [], 24, 2),
  (⟨"TripleStoreModel$Digits", "endSum", "()Z"⟩, prog_15_method_12_code, 6, (some .boolean), [], 24, 0),
  (⟨"TripleStoreModel$Digits", "quotient", "(JIJI)Z"⟩, prog_15_method_9_code, 16, (some .boolean), [], 24, 4),
  (⟨"TripleStoreModel$Terms", "string", "(I)Z"⟩, prog_21_method_33_code, 2, (some .boolean), [], 19, 1),
  (⟨"TripleStoreModel$Terms", "isText", "(I)Z"⟩, prog_21_method_16_code, 2, (some .boolean), [], 19, 1),
  (⟨"TripleStoreModel$Terms", "putWord", "(Ljava/lang/String;)V"⟩, prog_21_method_27_code, 3, none, [], 19, 1),
  (⟨"TripleStoreModel$Terms", "putNumber", "(JI)V"⟩, prog_21_method_28_code, 8, none, [], 19, 2),
  (⟨"TripleStoreModel$Digits", "whole", "(JII)V"⟩, prog_15_method_13_code, 11, none, [], 24, 3),
  (⟨"TripleStoreModel$Digits", "sum", "(JIJI)Z"⟩, prog_15_method_7_code, 15, (some .boolean), [], 24, 4),
  (⟨"TripleStoreModel$Digits", "product", "(JIJI)Z"⟩, prog_15_method_8_code, 11, (some .boolean), [], 24, 4),
  (⟨"TripleStoreModel$Terms", "give", "()I"⟩, prog_21_method_8_code, 4, (some .int), [], 19, 0),
  (⟨"TripleStoreModel$Doer", "columnsOf", "(I)I"⟩, prog_16_method_93_code, 2, (some .int), [], 22, 1),
  (⟨"TripleStoreModel$Doer", "columnOf", "(II)I"⟩, prog_16_method_94_code, 3, (some .int), [], 22, 2),
  (⟨"TripleStoreModel$Store", "isTriple", "(III)Z"⟩, prog_20_method_8_code, 4, (some .boolean), [], 20, 3),
  (⟨"TripleStoreModel$Store", "unsay", "(III)Z"⟩, prog_20_method_7_code, 6, (some .boolean), [], 20, 3),
  (⟨"TripleStoreModel$Store", "findSaid", "(III)I"⟩, prog_20_method_5_code, 5, (some .int), [], 20, 3),
  (⟨"TripleStoreModel$Terms", "forget", "(I)V"⟩, prog_21_method_14_code, 2, none, [], 19, 1),
  (⟨"TripleStoreModel$Store", "reckon", "()Z"⟩, prog_20_method_15_code, 3, (some .boolean), [], 20, 0),
  (⟨"TripleStoreModel$Store", "find", "(III)I"⟩, prog_20_method_3_code, 5, (some .int), [], 20, 3),
  (⟨"TripleStoreModel$Terms", "keep", "(I)I"⟩, prog_21_method_13_code, 3, (some .int), [], 19, 1),
  (⟨"TripleStoreModel$Store", "say", "(III)I"⟩, prog_20_method_6_code, 4, (some .int), [], 20, 3),
  (⟨"TripleStoreModel$Store", "dropRule", "(I)V"⟩, prog_20_method_16_code, 4, none, [], 20, 1),
  (⟨"TripleStoreModel$Doer", "end", "(Z)V"⟩, prog_16_method_4_code, 2, none, [], 22, 1),
  (⟨"TripleStoreModel", "rows", "()I"⟩, prog_14_method_28_code, 1, (some .int), [], 18, 0),
  (⟨"TripleStoreModel", "columns", "()I"⟩, prog_14_method_29_code, 1, (some .int), [], 18, 0),
  (⟨"TripleStoreModel", "cell", "(II)I"⟩, prog_14_method_30_code, 4, (some .int), [], 18, 2),
  (⟨"TripleStoreModel$Terms", "write", "(I)V"⟩, prog_21_method_31_code, 2, none, [], 19, 1),
  (⟨"TripleStoreModel", "column", "(I)I"⟩, prog_14_method_31_code, 3, (some .int), [], 18, 1),
  (⟨"TripleStoreModel", "written", "(I)I"⟩, prog_14_method_32_code, 2, (some .int), [], 18, 1)]
def e_mV4 : List e_M := [(⟨"TripleStoreModel", "made", "()I"⟩, prog_14_method_33_code, 1, (some .int), [], 18, 0),
  (⟨"TripleStoreModel", "plan", "(I)I"⟩, prog_14_method_34_code, 2, (some .int), [], 18, 1),
  (⟨"TripleStoreModel", "triples", "()I"⟩, prog_14_method_35_code, 1, (some .int), [], 18, 0),
  (⟨"TripleStoreModel", "said", "()I"⟩, prog_14_method_36_code, 1, (some .int), [], 18, 0),
  (⟨"TripleStoreModel", "terms", "()I"⟩, prog_14_method_37_code, 1, (some .int), [], 18, 0),
  (⟨"TripleStoreModel", "rules", "()I"⟩, prog_14_method_38_code, 1, (some .int), [], 18, 0),
  (⟨"TripleStoreModel", "term", "(I)I"⟩, prog_14_method_39_code, 2, (some .int), [], 18, 1),
  (⟨"TripleStoreModel", "find", "(III)I"⟩, prog_14_method_40_code, 5, (some .int), [], 18, 3),
  (⟨"TripleStoreModel$Store", "place", "(II)I"⟩, prog_20_method_20_code, 3, (some .int), [], 20, 2),
  (⟨"TripleStoreModel", "count", "(IIIII)I"⟩, prog_14_method_41_code, 6, (some .int), [], 18, 5),
  (⟨"TripleStoreModel$Store", "beginning", "(IIIII)I"⟩, prog_20_method_21_code, 9, (some .int), [], 20, 5)]
def e_mV : List e_M := e_mV0 ++ e_mV1 ++ e_mV2 ++ e_mV3 ++ e_mV4
def e_mP0 : List e_M := [(⟨"TripleStore$Tokens", "skipBlanks", "()V"⟩, prog_10_method_4_code, 3, none, [], 6, 0),
  (⟨"TripleStore$Tokens", "byteAt", "(I)I"⟩, prog_10_method_3_code, 2, (some .int), [], 6, 1),
  (⟨"TripleStore$Tokens", "readOne", "()Z"⟩, prog_10_method_5_code, 5, (some .boolean), [], 6, 0),
  (⟨"TripleStore$Tokens", "note", "(IIII)V"⟩, prog_10_method_8_code, 5, none, [], 6, 4),
  (⟨"TripleStore$Tokens", "readWord", "(I)V"⟩, prog_10_method_10_code, 4, none, [], 6, 1),
  (⟨"TripleStore$Tokens", "noteTerm", "(II)V"⟩, prog_10_method_9_code, 4, none, [], 6, 2),
  (⟨"TripleStore$Terms", "hash", "(LTripleStore$Value;)I"⟩, prog_9_method_13_code, 4, (some .int), [], 2, 1),
  (⟨"TripleStore$Terms", "isContent", "(ILTripleStore$Value;)Z"⟩, prog_9_method_14_code, 4, (some .boolean), [], 2, 2),
  (⟨"TripleStore$Terms", "isKnown", "(I)Z"⟩, prog_9_method_3_code, 2, (some .boolean), [], 2, 1),
  (⟨"TripleStore$Terms", "bytesOf", "(I)[B"⟩, prog_9_method_7_code, 2, (some (.array .byte)), [], 2, 1),
  (⟨"TripleStore$Terms", "nextOf", "(I)I"⟩, prog_9_method_9_code, 2, (some .int), [], 2, 1),
  (⟨"TripleStore$Terms", "ensure", "([BI)[B"⟩, prog_9_method_10_code, 3, (some (.array .byte)), [], 2, 2),
  (⟨"TripleStore$Terms", "store", "(ILTripleStore$Value;[BI)V"⟩, prog_9_method_11_code, 5, none, [], 2, 4),
  (⟨"TripleStore$Terms", "link", "(II)V"⟩, prog_9_method_12_code, 3, none, [], 2, 2),
  (⟨"TripleStore$Tokens", "wordIn", "(Ljava/lang/String;III)I"⟩, prog_10_method_11_code, 9, (some .int), [], 6, 4),
  (⟨"TripleStore$Tokens", "readVariable", "(I)Z"⟩, prog_10_method_7_code, 8, (some .boolean), [], 6, 1),
  (⟨"TripleStore$Tokens", "wordEnd", "(II)I"⟩, prog_10_method_12_code, 5, (some .int), [], 6, 2),
  (⟨"TripleStore$Tokens", "readSign", "(II)Z"⟩, prog_10_method_6_code, 4, (some .boolean), [], 6, 2),
  (⟨"TripleStore$Tokens", "readShort", "(III)I"⟩, prog_10_method_14_code, 6, (some .int), [], 6, 3),
  (⟨"TripleStore$Tokens", "readName", "(I)I"⟩, prog_10_method_16_code, 4, (some .int), [], 6, 1),
  (⟨"TripleStore$Tokens", "nameEnd", "(I)I"⟩, prog_10_method_15_code, 4, (some .int), [], 6, 1),
  (⟨"TripleStore$Tokens", "readText", "(I)I"⟩, prog_10_method_17_code, 4, (some .int), [], 6, 1),
  (⟨"TripleStore$Tokens", "readTag", "(I)I"⟩, prog_10_method_19_code, 5, (some .int), [], 6, 1),
  (⟨"TripleStore$Tokens", "readType", "(I)I"⟩, prog_10_method_20_code, 7, (some .int), [], 6, 1),
  (⟨"TripleStore$Tokens", "isBetween", "(IILjava/lang/String;)Z"⟩, prog_10_method_22_code, 5, (some .boolean), [], 6, 3),
  (⟨"TripleStore$Tokens", "takeTyped", "(I)I"⟩, prog_10_method_21_code, 2, (some .int), [], 6, 1),
  (⟨"TripleStore$Tokens", "isBehindValue", "()Z"⟩, prog_10_method_13_code, 2, (some .boolean), [], 6, 0),
  (⟨"TripleStore$Parser", "select", "(LTripleStore$Node;I)V"⟩, prog_6_method_11_code, 3, none, [], 10, 2),
  (⟨"TripleStore$Parser", "items", "(LTripleStore$Node;II)V"⟩, prog_6_method_12_code, 5, none, [], 10, 3),
  (⟨"TripleStore$Parser", "item", "(LTripleStore$Node;LTripleStore$Node;I)V"⟩, prog_6_method_13_code, 4, none, [], 10, 3),
  (⟨"TripleStore$Parser", "expression", "(LTripleStore$Node;LTripleStore$Node;I)V"⟩, prog_6_method_43_code, 6, none, [], 10, 3),
  (⟨"TripleStore$Parser", "beginOperand", "()V"⟩, prog_6_method_44_code, 3, none, [], 10, 0),
  (⟨"TripleStore$Parser", "leaf", "(I)LTripleStore$Node;"⟩, prog_6_method_54_code, 3, (some (.object "TripleStore$Node")), [], 10, 1),
  (⟨"TripleStore$Parser", "worthNode", "(I)LTripleStore$Node;"⟩, prog_6_method_53_code, 3, (some (.object "TripleStore$Node")), [], 10, 1),
  (⟨"TripleStore$Parser", "countNode", "()V"⟩, prog_6_method_56_code, 1, none, [], 10, 0),
  (⟨"TripleStore$Parser", "fillLeaf", "(LTripleStore$Node;)V"⟩, prog_6_method_55_code, 2, none, [], 10, 1),
  (⟨"TripleStore$Parser", "openBracket", "(LTripleStore$Node;)V"⟩, prog_6_method_57_code, 2, none, [], 10, 1),
  (⟨"TripleStore$Parser", "push", "(LTripleStore$Node;)V"⟩, prog_6_method_51_code, 2, none, [], 10, 1),
  (⟨"TripleStore$Parser", "pushSign", "(I)V"⟩, prog_6_method_52_code, 2, none, [], 10, 1),
  (⟨"TripleStore$Parser", "exists", "()LTripleStore$Node;"⟩, prog_6_method_65_code, 9, (some (.object "TripleStore$Node")), [], 10, 0),
  (⟨"TripleStore$Parser", "group", "(I)LTripleStore$Node;"⟩, prog_6_method_23_code, 5, (some (.object "TripleStore$Node")), [], 10, 1),
  (⟨"TripleStore$Parser", "bringAll", "(LTripleStore$Node;LTripleStore$Node;)V"⟩, prog_6_method_24_code, 4, none, [], 10, 2),
  (⟨"TripleStore$Parser", "part", "(LTripleStore$Node;I)Z"⟩, prog_6_method_25_code, 5, (some .boolean), [], 10, 2),
  (⟨"TripleStore$Parser", "block", "(LTripleStore$Node;)V"⟩, prog_6_method_33_code, 10, none, [], 10, 1),
  (⟨"TripleStore$Parser", "node", "(Z)I"⟩, prog_6_method_9_code, 3, (some .int), [], 10, 1),
  (⟨"TripleStore$Parser", "bring", "(LTripleStore$Node;I)V"⟩, prog_6_method_34_code, 3, none, [], 10, 2),
  (⟨"TripleStore$Parser", "path", "(I)LTripleStore$Node;"⟩, prog_6_method_36_code, 4, (some (.object "TripleStore$Node")), [], 10, 1),
  (⟨"TripleStore$Parser", "stepRow", "(I)LTripleStore$Node;"⟩, prog_6_method_38_code, 4, (some (.object "TripleStore$Node")), [], 10, 1),
  (⟨"TripleStore$Parser", "oneStep", "(I)LTripleStore$Node;"⟩, prog_6_method_39_code, 7, (some (.object "TripleStore$Node")), [], 10, 1),
  (⟨"TripleStore$Parser", "step", "()V"⟩, prog_6_method_37_code, 1, none, [], 10, 0)]
def e_mP1 : List e_M := [(⟨"TripleStore$Parser", "stepItself", "(I)LTripleStore$Node;"⟩, prog_6_method_40_code, 8, (some (.object "TripleStore$Node")), [], 10, 1),
  (⟨"TripleStore$Parser", "openPath", "(I)Z"⟩, prog_6_method_41_code, 3, (some .boolean), [], 10, 1),
  (⟨"TripleStore$Parser", "stepName", "()LTripleStore$Node;"⟩, prog_6_method_42_code, 2, (some (.object "TripleStore$Node")), [], 10, 0),
  (⟨"TripleStore$Parser", "objects", "(LTripleStore$Node;LTripleStore$Node;LTripleStore$Node;)V"⟩, prog_6_method_35_code, 8, none, [], 10, 3),
  (⟨"TripleStore$Parser", "takeIf", "(I)Z"⟩, prog_6_method_8_code, 3, (some .boolean), [], 10, 1),
  (⟨"TripleStore$Parser", "unions", "(LTripleStore$Node;I)V"⟩, prog_6_method_26_code, 7, none, [], 10, 2),
  (⟨"TripleStore$Parser", "filter", "(LTripleStore$Node;I)V"⟩, prog_6_method_27_code, 3, none, [], 10, 2),
  (⟨"TripleStore$Parser", "bracketed", "(LTripleStore$Node;LTripleStore$Node;I)V"⟩, prog_6_method_17_code, 4, none, [], 10, 3),
  (⟨"TripleStore$Parser", "binding", "(LTripleStore$Node;LTripleStore$Node;I)V"⟩, prog_6_method_28_code, 4, none, [], 10, 3),
  (⟨"TripleStore$Parser", "target", "(LTripleStore$Node;)V"⟩, prog_6_method_14_code, 2, none, [], 10, 1),
  (⟨"TripleStore$Parser", "refuse", "(ZI)V"⟩, prog_6_method_21_code, 3, none, [], 10, 2),
  (⟨"TripleStore$Parser", "table", "(LTripleStore$Node;LTripleStore$Node;)V"⟩, prog_6_method_29_code, 6, none, [], 10, 2),
  (⟨"TripleStore$Parser", "tableColumns", "(LTripleStore$Node;LTripleStore$Node;Z)V"⟩, prog_6_method_30_code, 7, none, [], 10, 3),
  (⟨"TripleStore$Parser", "isGiven", "()Z"⟩, prog_6_method_31_code, 1, (some .boolean), [], 10, 0),
  (⟨"TripleStore$Parser", "row", "(LTripleStore$Node;Z)V"⟩, prog_6_method_32_code, 5, none, [], 10, 2),
  (⟨"TripleStore$Parser", "bound", "()V"⟩, prog_6_method_62_code, 2, none, [], 10, 0),
  (⟨"TripleStore$Parser", "closeBracket", "()V"⟩, prog_6_method_58_code, 3, none, [], 10, 0),
  (⟨"TripleStore$Parser", "function", "(I)V"⟩, prog_6_method_60_code, 3, none, [], 10, 1),
  (⟨"TripleStore$Parser", "aggregate", "(I)V"⟩, prog_6_method_63_code, 3, none, [], 10, 1),
  (⟨"TripleStore$Parser", "goOn", "()Z"⟩, prog_6_method_45_code, 3, (some .boolean), [], 10, 0),
  (⟨"TripleStore$Parser", "operator", "(II)V"⟩, prog_6_method_50_code, 3, none, [], 10, 2),
  (⟨"TripleStore$Parser", "reduce", "(I)V"⟩, prog_6_method_49_code, 4, none, [], 10, 1),
  (⟨"TripleStore$Parser", "openLevel", "()I"⟩, prog_6_method_48_code, 1, (some .int), [], 10, 0),
  (⟨"TripleStore$Parser", "among", "()V"⟩, prog_6_method_61_code, 3, none, [], 10, 0),
  (⟨"TripleStore$Parser", "nextArgument", "()V"⟩, prog_6_method_59_code, 3, none, [], 10, 0),
  (⟨"TripleStore$Parser", "separator", "()V"⟩, prog_6_method_64_code, 1, none, [], 10, 0),
  (⟨"TripleStore$Parser", "ends", "(LTripleStore$Node;I)V"⟩, prog_6_method_15_code, 4, none, [], 10, 2),
  (⟨"TripleStore$Parser", "keys", "(LTripleStore$Node;I)V"⟩, prog_6_method_19_code, 6, none, [], 10, 2),
  (⟨"TripleStore$Parser", "isKey", "()Z"⟩, prog_6_method_18_code, 1, (some .boolean), [], 10, 0),
  (⟨"TripleStore$Parser", "amount", "(LTripleStore$Node;I)V"⟩, prog_6_method_16_code, 4, none, [], 10, 2),
  (⟨"TripleStore$Parser", "whole", "()I"⟩, prog_6_method_4_code, 3, (some .int), [], 10, 0),
  (⟨"TripleStore$Parser", "check", "(LTripleStore$Node;)V"⟩, prog_6_method_20_code, 6, none, [], 10, 1),
  (⟨"TripleStore$Parser", "checkGrouped", "(LTripleStore$Node;LTripleStore$Node;)V"⟩, prog_6_method_22_code, 7, none, [], 10, 2),
  (⟨"TripleStore$Parser", "parts", "(LTripleStore$Node;)Z"⟩, prog_6_method_3_code, 2, (some .boolean), [], 10, 1),
  (⟨"TripleStore$Parser", "facts", "(LTripleStore$Node;II)V"⟩, prog_6_method_5_code, 7, none, [], 10, 3),
  (⟨"TripleStore$Parser", "fact", "(LTripleStore$Node;I)V"⟩, prog_6_method_6_code, 10, none, [], 10, 2),
  (⟨"TripleStore$Parser", "refuseVariable", "(I)V"⟩, prog_6_method_7_code, 2, none, [], 10, 1),
  (⟨"TripleStore$Parser", "name", "()I"⟩, prog_6_method_10_code, 2, (some .int), [], 10, 0),
  (⟨"TripleStore", "fill", "(LTripleStore$Node;)V"⟩, prog_1_method_21_code, 2, none, [], 1, 1),
  (⟨"TripleStore$Triples", "sortBy", "([I[II)V"⟩, prog_11_method_20_code, 7, none, [], 8, 3),
  (⟨"TripleStore$Blocks", "planBlock", "(LTripleStore$Node;)V"⟩, prog_2_method_4_code, 3, none, [], 7, 1),
  (⟨"TripleStore$Blocks", "measure", "(ILTripleStore$Node;)V"⟩, prog_2_method_5_code, 7, none, [], 7, 2),
  (⟨"TripleStore$Triples", "lowest", "([IIII)I"⟩, prog_11_method_24_code, 9, (some .int), [], 8, 4),
  (⟨"TripleStore$Blocks", "arrange", "(IIIJJ)V"⟩, prog_2_method_9_code, 15, none, [], 7, 5),
  (⟨"TripleStore$Blocks", "estimate", "(II)J"⟩, prog_2_method_6_code, 6, (some .long), [], 7, 2),
  (⟨"TripleStore$Blocks", "isKnown", "(II)Z"⟩, prog_2_method_7_code, 3, (some .boolean), [], 7, 2),
  (⟨"TripleStore$Blocks", "knownBy", "(I)I"⟩, prog_2_method_8_code, 2, (some .int), [], 7, 1),
  (⟨"TripleStore$Groups", "select", "(LTripleStore$Node;I)V"⟩, prog_4_method_12_code, 5, none, [], 5, 2),
  (⟨"TripleStore$Groups", "bag", "(LTripleStore$Node;Z)V"⟩, prog_4_method_5_code, 4, none, [], 5, 2),
  (⟨"TripleStore$Groups", "group", "(LTripleStore$Node;IZ)V"⟩, prog_4_method_3_code, 5, none, [], 5, 3)]
def e_mP2 : List e_M := [(⟨"TripleStore$Rows", "hasRoomFor", "(I)Z"⟩, prog_7_method_4_code, 2, (some .boolean), [], 11, 1),
  (⟨"TripleStore$Groups", "part", "(LTripleStore$Node;I)V"⟩, prog_4_method_4_code, 6, none, [], 5, 2),
  (⟨"TripleStore$Blocks", "pattern", "(LTripleStore$Node;I)V"⟩, prog_2_method_12_code, 11, none, [], 7, 2),
  (⟨"TripleStore$Blocks", "isOneVariable", "(II)Z"⟩, prog_2_method_13_code, 3, (some .boolean), [], 7, 2),
  (⟨"TripleStore$Blocks", "give", "(III)V"⟩, prog_2_method_14_code, 4, none, [], 7, 3),
  (⟨"TripleStore$Blocks", "pathLine", "(LTripleStore$Node;I)V"⟩, prog_2_method_15_code, 11, none, [], 7, 2),
  (⟨"TripleStore$Blocks", "clear", "(I)V"⟩, prog_2_method_18_code, 3, none, [], 7, 1),
  (⟨"TripleStore$Blocks", "add", "(IIIZ)V"⟩, prog_2_method_19_code, 6, none, [], 7, 4),
  (⟨"TripleStore$Blocks", "walk", "(LTripleStore$Node;IIII)V"⟩, prog_2_method_20_code, 7, none, [], 7, 5),
  (⟨"TripleStore$Blocks", "walkName", "(LTripleStore$Node;III)V"⟩, prog_2_method_21_code, 11, none, [], 7, 4),
  (⟨"TripleStore$Blocks", "walkOther", "(LTripleStore$Node;IIIZ)V"⟩, prog_2_method_22_code, 13, none, [], 7, 5),
  (⟨"TripleStore$Blocks", "isAmong", "(LTripleStore$Node;IZ)Z"⟩, prog_2_method_23_code, 5, (some .boolean), [], 7, 3),
  (⟨"TripleStore$Blocks", "walkRow", "(LTripleStore$Node;IIII)V"⟩, prog_2_method_24_code, 11, none, [], 7, 5),
  (⟨"TripleStore$Blocks", "pieceAt", "(LTripleStore$Node;I)LTripleStore$Node;"⟩, prog_2_method_25_code, 5, (some (.object "TripleStore$Node")), [], 7, 2),
  (⟨"TripleStore$Blocks", "walkRepeated", "(LTripleStore$Node;IIII)V"⟩, prog_2_method_26_code, 11, none, [], 7, 5),
  (⟨"TripleStore$Blocks", "repeat", "(LTripleStore$Node;III)V"⟩, prog_2_method_27_code, 11, none, [], 7, 4),
  (⟨"TripleStore$Blocks", "giveReached", "(LTripleStore$Node;IIZI)V"⟩, prog_2_method_17_code, 12, none, [], 7, 5),
  (⟨"TripleStore$Groups", "optional", "(LTripleStore$Node;I)V"⟩, prog_4_method_8_code, 11, none, [], 5, 2),
  (⟨"TripleStore$Groups", "passes", "(LTripleStore$Node;I)Z"⟩, prog_4_method_7_code, 6, (some .boolean), [], 5, 2),
  (⟨"TripleStore$Expressions", "holds", "(LTripleStore$Node;I)Z"⟩, prog_3_method_3_code, 3, (some .boolean), [], 4, 2),
  (⟨"TripleStore$Expressions", "worth", "(LTripleStore$Node;I)LTripleStore$Value;"⟩, prog_3_method_2_code, 5, (some (.object "TripleStore$Value")), [], 4, 2),
  (⟨"TripleStore$Expressions", "work", "(LTripleStore$Node;LTripleStore$Value;I)V"⟩, prog_3_method_4_code, 4, none, [], 4, 3),
  (⟨"TripleStore$Expressions", "exists", "(LTripleStore$Node;I)Z"⟩, prog_3_method_5_code, 5, (some .boolean), [], 4, 2),
  (⟨"TripleStore$Expressions", "logic", "(LTripleStore$Node;)I"⟩, prog_3_method_6_code, 6, (some .int), [], 4, 1),
  (⟨"TripleStore$Expressions", "among", "(LTripleStore$Node;)I"⟩, prog_3_method_7_code, 6, (some .int), [], 4, 1),
  (⟨"TripleStore$Expressions", "equal", "(LTripleStore$Value;LTripleStore$Value;)I"⟩, prog_3_method_8_code, 3, (some .int), [], 4, 2),
  (⟨"TripleStore$Expressions", "aggregate", "(LTripleStore$Node;LTripleStore$Value;)V"⟩, prog_3_method_31_code, 7, none, [], 4, 2),
  (⟨"TripleStore$Rows", "compareFirst", "(I)V"⟩, prog_7_method_20_code, 3, none, [], 11, 1),
  (⟨"TripleStore$Rows", "merge", "(III)V"⟩, prog_7_method_24_code, 7, none, [], 11, 3),
  (⟨"TripleStore$Rows", "compare", "(II)I"⟩, prog_7_method_21_code, 5, (some .int), [], 11, 2),
  (⟨"TripleStore$Terms", "compareNumbers", "(II)I"⟩, prog_9_method_23_code, 9, (some .int), [], 2, 2),
  (⟨"TripleStore$Rows", "rearrange", "(II)V"⟩, prog_7_method_25_code, 7, none, [], 11, 2),
  (⟨"TripleStore$Expressions", "countDifferent", "()I"⟩, prog_3_method_32_code, 3, (some .int), [], 4, 0),
  (⟨"TripleStore$Expressions", "keepOneEach", "(I)V"⟩, prog_3_method_33_code, 4, none, [], 4, 1),
  (⟨"TripleStore$Expressions", "countErrors", "(I)I"⟩, prog_3_method_34_code, 4, (some .int), [], 4, 1),
  (⟨"TripleStore$Expressions", "total", "(IZLTripleStore$Value;)V"⟩, prog_3_method_35_code, 13, none, [], 4, 3),
  (⟨"TripleStore$Expressions", "settleSum", "(JJZLTripleStore$Value;)V"⟩, prog_3_method_24_code, 12, none, [], 4, 4),
  (⟨"TripleStore$Expressions", "setLimbs", "(JJJJJ)V"⟩, prog_3_method_25_code, 11, none, [], 4, 5),
  (⟨"TripleStore$Expressions", "settle", "(ZZLTripleStore$Value;)V"⟩, prog_3_method_26_code, 11, none, [], 4, 3),
  (⟨"TripleStore$Expressions", "divide", "(LTripleStore$Value;LTripleStore$Value;LTripleStore$Value;)V"⟩, prog_3_method_30_code, 15, none, [], 4, 3),
  (⟨"TripleStore$Expressions", "growLimbs", "(JJ)V"⟩, prog_3_method_28_code, 10, none, [], 4, 2),
  (⟨"TripleStore$Expressions", "chain", "(IILTripleStore$Value;)V"⟩, prog_3_method_37_code, 5, none, [], 4, 3),
  (⟨"TripleStore$Expressions", "extreme", "(IZLTripleStore$Value;)V"⟩, prog_3_method_36_code, 8, none, [], 4, 3),
  (⟨"TripleStore$Expressions", "simple", "(LTripleStore$Node;LTripleStore$Value;)V"⟩, prog_3_method_11_code, 7, none, [], 4, 2),
  (⟨"TripleStore$Expressions", "comparison", "(ILTripleStore$Value;LTripleStore$Value;)I"⟩, prog_3_method_12_code, 4, (some .int), [], 4, 3),
  (⟨"TripleStore$Expressions", "opposite", "(I)I"⟩, prog_3_method_10_code, 2, (some .int), [], 4, 1),
  (⟨"TripleStore$Expressions", "less", "(LTripleStore$Value;LTripleStore$Value;)I"⟩, prog_3_method_9_code, 3, (some .int), [], 4, 2),
  (⟨"TripleStore$Expressions", "arithmetic", "(ILTripleStore$Value;LTripleStore$Value;LTripleStore$Value;)V"⟩, prog_3_method_23_code, 6, none, [], 4, 4),
  (⟨"TripleStore$Expressions", "multiply", "(LTripleStore$Value;LTripleStore$Value;)V"⟩, prog_3_method_27_code, 14, none, [], 4, 2),
  (⟨"TripleStore$Expressions", "divideLimbs", "(J)V"⟩, prog_3_method_29_code, 8, none, [], 4, 1)]
def e_mP3 : List e_M := [(⟨"TripleStore$Expressions", "ofNumber", "(ILTripleStore$Value;LTripleStore$Value;)V"⟩, prog_3_method_22_code, 8, none, [], 4, 3),
  (⟨"TripleStore$Expressions", "coalesce", "(LTripleStore$Node;LTripleStore$Value;)V"⟩, prog_3_method_13_code, 4, none, [], 4, 2),
  (⟨"TripleStore$Expressions", "concat", "(LTripleStore$Node;LTripleStore$Value;)V"⟩, prog_3_method_14_code, 8, none, [], 4, 2),
  (⟨"TripleStore$Expressions", "substr", "(LTripleStore$Value;LTripleStore$Value;LTripleStore$Value;LTripleStore$Value;)V"⟩, prog_3_method_15_code, 5, none, [], 4, 4),
  (⟨"TripleStore$Expressions", "ofTwo", "(ILTripleStore$Value;LTripleStore$Value;LTripleStore$Value;)V"⟩, prog_3_method_16_code, 7, none, [], 4, 4),
  (⟨"TripleStore$Expressions", "ofTerm", "(ILTripleStore$Value;LTripleStore$Value;)V"⟩, prog_3_method_17_code, 4, none, [], 4, 3),
  (⟨"TripleStore$Expressions", "describe", "(ILTripleStore$Value;LTripleStore$Value;)V"⟩, prog_3_method_19_code, 6, none, [], 4, 3),
  (⟨"TripleStore$Expressions", "toName", "(LTripleStore$Value;LTripleStore$Value;)V"⟩, prog_3_method_21_code, 5, none, [], 4, 2),
  (⟨"TripleStore$Expressions", "ofPlain", "(ILTripleStore$Value;LTripleStore$Value;)V"⟩, prog_3_method_18_code, 6, none, [], 4, 3),
  (⟨"TripleStore$Groups", "minus", "(LTripleStore$Node;I)V"⟩, prog_4_method_9_code, 8, none, [], 5, 2),
  (⟨"TripleStore$Groups", "keep", "(LTripleStore$Value;)I"⟩, prog_4_method_11_code, 3, (some .int), [], 5, 1),
  (⟨"TripleStore$Groups", "table", "(LTripleStore$Node;I)V"⟩, prog_4_method_10_code, 7, none, [], 5, 2),
  (⟨"TripleStore$Groups", "filter", "(LTripleStore$Node;I)V"⟩, prog_4_method_6_code, 6, none, [], 5, 2),
  (⟨"TripleStore$Groups", "sets", "(LTripleStore$Node;I)V"⟩, prog_4_method_15_code, 9, none, [], 5, 2),
  (⟨"TripleStore$Groups", "compareSets", "(LTripleStore$Node;)V"⟩, prog_4_method_16_code, 3, none, [], 5, 1),
  (⟨"TripleStore$Groups", "set", "(LTripleStore$Node;II)V"⟩, prog_4_method_17_code, 9, none, [], 5, 3),
  (⟨"TripleStore$Groups", "finish", "(LTripleStore$Node;I)V"⟩, prog_4_method_14_code, 5, none, [], 5, 2),
  (⟨"TripleStore$Groups", "compareColumns", "(LTripleStore$Node;)V"⟩, prog_4_method_13_code, 3, none, [], 5, 1),
  (⟨"TripleStore$Groups", "project", "(LTripleStore$Node;I)V"⟩, prog_4_method_18_code, 6, none, [], 5, 2),
  (⟨"TripleStore$Groups", "slice", "(LTripleStore$Node;I)V"⟩, prog_4_method_19_code, 6, none, [], 5, 2),
  (⟨"TripleStore", "show", "(LTripleStore$Node;)I"⟩, prog_1_method_22_code, 2, (some .int), [], 1, 1),
  (⟨"TripleStore", "construct", "(LTripleStore$Node;)I"⟩, prog_1_method_23_code, 4, (some .int), [], 1, 1),
  (⟨"TripleStore", "give", "(LTripleStore$Node;IZ)V"⟩, prog_1_method_24_code, 6, none, [], 1, 3),
  (⟨"TripleStore", "giveOne", "(LTripleStore$Node;IZ)V"⟩, prog_1_method_25_code, 8, none, [], 1, 3),
  (⟨"TripleStore", "addRule", "(LTripleStore$Node;)I"⟩, prog_1_method_30_code, 6, (some .int), [], 1, 1),
  (⟨"TripleStore", "numberTerms", "(II)Z"⟩, prog_1_method_29_code, 7, (some .boolean), [], 1, 2),
  (⟨"TripleStore$Triples", "slotOf", "(I)I"⟩, prog_11_method_4_code, 5, (some .int), [], 8, 1),
  (⟨"TripleStore$Rules", "bind", "(III)I"⟩, prog_8_method_7_code, 9, (some .int), [], 9, 3),
  (⟨"TripleStore$Rules", "termAt", "(III)I"⟩, prog_8_method_5_code, 7, (some .int), [], 9, 3),
  (⟨"TripleStore$Rules", "variableAt", "(III)I"⟩, prog_8_method_6_code, 5, (some .int), [], 9, 3),
  (⟨"TripleStore$Rules", "release", "(I)V"⟩, prog_8_method_8_code, 3, none, [], 9, 1),
  (⟨"TripleStore$Rules", "extend", "(II)V"⟩, prog_8_method_9_code, 10, none, [], 9, 2),
  (⟨"TripleStore$Rules", "conclude", "(I)V"⟩, prog_8_method_12_code, 7, none, [], 9, 1),
  (⟨"TripleStore$Rules", "easiest", "(II)I"⟩, prog_8_method_10_code, 8, (some .int), [], 9, 2),
  (⟨"TripleStore$Rules", "narrowest", "(II)I"⟩, prog_8_method_11_code, 7, (some .int), [], 9, 2),
  (⟨"TripleStore", "dropRule", "(I)I"⟩, prog_1_method_31_code, 2, (some .int), [], 1, 1),
  (⟨"TripleStore", "change", "(LTripleStore$Node;)I"⟩, prog_1_method_26_code, 9, (some .int), [], 1, 1),
  (⟨"TripleStore", "unsay", "(II)I"⟩, prog_1_method_27_code, 5, (some .int), [], 1, 2),
  (⟨"TripleStore", "say", "(II)I"⟩, prog_1_method_28_code, 6, (some .int), [], 1, 2),
  (⟨"TripleStore", "account", "(I)V"⟩, prog_1_method_20_code, 2, none, [], 1, 1),
  (⟨"TripleStore$Terms", "put", "([BI[BI)I"⟩, prog_9_method_25_code, 6, (some .int), [], 2, 4),
  (⟨"TripleStore$Terms", "writeName", "([BI[BI)I"⟩, prog_9_method_26_code, 6, (some .int), [], 2, 4),
  (⟨"TripleStore$Terms", "writeText", "(LTripleStore$Value;[B)I"⟩, prog_9_method_27_code, 7, (some .int), [], 2, 2),
  (⟨"TripleStoreModel$Reader", "check", "()V"⟩, prog_19_method_4_code, 1, none, [], 21, 0),
  (⟨"TripleStoreModel$Lexer", "skip", "()V"⟩, prog_17_method_8_code, 3, none, [], 23, 0),
  (⟨"TripleStoreModel$Lexer", "byteAt", "(I)I"⟩, prog_17_method_3_code, 2, (some .int), [], 23, 1),
  (⟨"TripleStoreModel$Lexer", "isNumberHere", "(I)Z"⟩, prog_17_method_20_code, 2, (some .boolean), [], 23, 1),
  (⟨"TripleStoreModel$Lexer", "number", "()V"⟩, prog_17_method_22_code, 1, none, [], 23, 0),
  (⟨"TripleStoreModel$Lexer", "numberEnd", "(II)I"⟩, prog_17_method_21_code, 13, (some .int), [], 23, 2),
  (⟨"TripleStoreModel$Lexer", "give", "()V"⟩, prog_17_method_15_code, 1, none, [], 23, 0)]
def e_mP4 : List e_M := [(⟨"TripleStoreModel$Terms", "isOne", "(I)Z"⟩, prog_21_method_5_code, 3, (some .boolean), [], 19, 1),
  (⟨"TripleStoreModel$Terms", "lay", "(II)V"⟩, prog_21_method_11_code, 4, none, [], 19, 2),
  (⟨"TripleStoreModel$Lexer", "word", "()V"⟩, prog_17_method_18_code, 3, none, [], 23, 0),
  (⟨"TripleStoreModel$Lexer", "string", "()V"⟩, prog_17_method_24_code, 1, none, [], 23, 0),
  (⟨"TripleStoreModel$Lexer", "textEnd", "()I"⟩, prog_17_method_23_code, 4, (some .int), [], 23, 0),
  (⟨"TripleStoreModel$Lexer", "tag", "()V"⟩, prog_17_method_25_code, 3, none, [], 23, 0),
  (⟨"TripleStoreModel$Lexer", "nameEnd", "(I)I"⟩, prog_17_method_16_code, 3, (some .int), [], 23, 1),
  (⟨"TripleStoreModel$Lexer", "typed", "()V"⟩, prog_17_method_27_code, 5, none, [], 23, 0),
  (⟨"TripleStoreModel$Lexer", "isType", "(Ljava/lang/String;II)Z"⟩, prog_17_method_26_code, 6, (some .boolean), [], 23, 3),
  (⟨"TripleStoreModel$Lexer", "isNumberText", "(Z)Z"⟩, prog_17_method_28_code, 3, (some .boolean), [], 23, 1),
  (⟨"TripleStoreModel$Lexer", "label", "(III)V"⟩, prog_17_method_14_code, 5, none, [], 23, 3),
  (⟨"TripleStoreModel$Lexer", "run", "(II)I"⟩, prog_17_method_13_code, 4, (some .int), [], 23, 2),
  (⟨"TripleStoreModel$Lexer", "name", "()V"⟩, prog_17_method_17_code, 2, none, [], 23, 0),
  (⟨"TripleStoreModel$Lexer", "signs", "(I)V"⟩, prog_17_method_19_code, 5, none, [], 23, 1),
  (⟨"TripleStoreModel$Reader", "fail", "(II)V"⟩, prog_19_method_2_code, 3, none, [], 21, 2),
  (⟨"TripleStoreModel$Reader", "statement", "()V"⟩, prog_19_method_85_code, 2, none, [], 21, 0),
  (⟨"TripleStoreModel$Reader", "isWord", "(Ljava/lang/String;)Z"⟩, prog_19_method_7_code, 2, (some .boolean), [], 21, 1),
  (⟨"TripleStoreModel$Reader", "select", "()I"⟩, prog_19_method_72_code, 7, (some .int), [], 21, 0),
  (⟨"TripleStoreModel$Reader", "wantWord", "(Ljava/lang/String;)V"⟩, prog_19_method_11_code, 2, none, [], 21, 1),
  (⟨"TripleStoreModel$Reader", "need", "(ZI)V"⟩, prog_19_method_3_code, 3, none, [], 21, 2),
  (⟨"TripleStoreModel$Reader", "take", "()V"⟩, prog_19_method_5_code, 1, none, [], 21, 0),
  (⟨"TripleStoreModel$Reader", "takesWord", "(Ljava/lang/String;)Z"⟩, prog_19_method_9_code, 3, (some .boolean), [], 21, 1),
  (⟨"TripleStoreModel$Reader", "isSign", "(I)Z"⟩, prog_19_method_6_code, 2, (some .boolean), [], 21, 1),
  (⟨"TripleStoreModel$Reader", "items", "(I)I"⟩, prog_19_method_75_code, 4, (some .int), [], 21, 1),
  (⟨"TripleStoreModel$Reader", "item", "(I)V"⟩, prog_19_method_76_code, 6, none, [], 21, 1),
  (⟨"TripleStoreModel$Reader", "isVariable", "()Z"⟩, prog_19_method_12_code, 1, (some .boolean), [], 21, 0),
  (⟨"TripleStoreModel$Reader", "open", "()V"⟩, prog_19_method_46_code, 1, none, [], 21, 0),
  (⟨"TripleStoreModel$Reader", "conjunction", "()I"⟩, prog_19_method_55_code, 3, (some .int), [], 21, 0),
  (⟨"TripleStoreModel$Reader", "test", "()I"⟩, prog_19_method_57_code, 7, (some .int), [], 21, 0),
  (⟨"TripleStoreModel$Reader", "sum", "()I"⟩, prog_19_method_58_code, 3, (some .int), [], 21, 0),
  (⟨"TripleStoreModel$Reader", "product", "()I"⟩, prog_19_method_59_code, 3, (some .int), [], 21, 0),
  (⟨"TripleStoreModel$Reader", "signed", "()I"⟩, prog_19_method_60_code, 5, (some .int), [], 21, 0),
  (⟨"TripleStoreModel$Reader", "count", "()V"⟩, prog_19_method_49_code, 1, none, [], 21, 0),
  (⟨"TripleStoreModel$Reader", "reserve", "()V"⟩, prog_19_method_52_code, 1, none, [], 21, 0),
  (⟨"TripleStoreModel$Reader", "value", "()I"⟩, prog_19_method_61_code, 4, (some .int), [], 21, 0),
  (⟨"TripleStoreModel$Reader", "isTerm", "()Z"⟩, prog_19_method_13_code, 1, (some .boolean), [], 21, 0),
  (⟨"TripleStoreModel$Reader", "termHere", "()I"⟩, prog_19_method_18_code, 2, (some .int), [], 21, 0),
  (⟨"TripleStoreModel$Reader", "used", "(Z)I"⟩, prog_19_method_62_code, 5, (some .int), [], 21, 1),
  (⟨"TripleStoreModel$Reader", "variableHere", "()I"⟩, prog_19_method_15_code, 2, (some .int), [], 21, 0),
  (⟨"TripleStoreModel$Reader", "isName", "(I)Z"⟩, prog_19_method_16_code, 5, (some .boolean), [], 21, 1),
  (⟨"TripleStoreModel$Reader", "bracket", "()I"⟩, prog_19_method_48_code, 2, (some .int), [], 21, 0),
  (⟨"TripleStoreModel$Reader", "close", "()V"⟩, prog_19_method_47_code, 1, none, [], 21, 0),
  (⟨"TripleStoreModel$Reader", "wantSign", "(I)V"⟩, prog_19_method_10_code, 2, none, [], 21, 1),
  (⟨"TripleStoreModel$Reader", "exists", "()I"⟩, prog_19_method_70_code, 3, (some .int), [], 21, 0),
  (⟨"TripleStoreModel$Reader", "seenAt", "()I"⟩, prog_19_method_25_code, 1, (some .int), [], 21, 0),
  (⟨"TripleStoreModel$Reader", "showColumns", "(I)V"⟩, prog_19_method_39_code, 4, none, [], 21, 1),
  (⟨"TripleStoreModel$Reader", "see", "(I)V"⟩, prog_19_method_27_code, 3, none, [], 21, 1),
  (⟨"TripleStoreModel$Reader", "isSeen", "(II)Z"⟩, prog_19_method_26_code, 4, (some .boolean), [], 21, 2),
  (⟨"TripleStoreModel$Reader", "parts", "(I)V"⟩, prog_19_method_40_code, 4, none, [], 21, 1),
  (⟨"TripleStoreModel$Reader", "part", "()I"⟩, prog_19_method_41_code, 2, (some .int), [], 21, 0)]
def e_mP5 : List e_M := [(⟨"TripleStoreModel$Reader", "isNode", "()Z"⟩, prog_19_method_21_code, 1, (some .boolean), [], 21, 0),
  (⟨"TripleStoreModel$Reader", "block", "()I"⟩, prog_19_method_30_code, 6, (some .int), [], 21, 0),
  (⟨"TripleStoreModel$Reader", "node", "(Z)I"⟩, prog_19_method_22_code, 3, (some .int), [], 21, 1),
  (⟨"TripleStoreModel$Reader", "variable", "()I"⟩, prog_19_method_17_code, 2, (some .int), [], 21, 0),
  (⟨"TripleStoreModel$Reader", "seenItem", "(I)I"⟩, prog_19_method_29_code, 2, (some .int), [], 21, 1),
  (⟨"TripleStoreModel$Reader", "verb", "(II)I"⟩, prog_19_method_31_code, 9, (some .int), [], 21, 2),
  (⟨"TripleStoreModel$Reader", "sequence", "()I"⟩, prog_19_method_34_code, 2, (some .int), [], 21, 0),
  (⟨"TripleStoreModel$Reader", "stepHere", "()I"⟩, prog_19_method_35_code, 4, (some .int), [], 21, 0),
  (⟨"TripleStoreModel$Reader", "step", "()V"⟩, prog_19_method_32_code, 1, none, [], 21, 0),
  (⟨"TripleStoreModel$Reader", "one", "()I"⟩, prog_19_method_36_code, 2, (some .int), [], 21, 0),
  (⟨"TripleStoreModel$Reader", "isKind", "(I)Z"⟩, prog_19_method_14_code, 2, (some .boolean), [], 21, 1),
  (⟨"TripleStoreModel$Reader", "name", "()I"⟩, prog_19_method_20_code, 1, (some .int), [], 21, 0),
  (⟨"TripleStoreModel$Reader", "typeName", "()I"⟩, prog_19_method_19_code, 3, (some .int), [], 21, 0),
  (⟨"TripleStoreModel$Reader", "none", "()V"⟩, prog_19_method_37_code, 3, none, [], 21, 0),
  (⟨"TripleStoreModel$Reader", "takesSign", "(I)Z"⟩, prog_19_method_8_code, 3, (some .boolean), [], 21, 1),
  (⟨"TripleStoreModel$Reader", "seeInner", "()V"⟩, prog_19_method_28_code, 3, none, [], 21, 0),
  (⟨"TripleStoreModel$Reader", "union", "()I"⟩, prog_19_method_42_code, 4, (some .int), [], 21, 0),
  (⟨"TripleStoreModel$Reader", "bind", "()I"⟩, prog_19_method_43_code, 4, (some .int), [], 21, 0),
  (⟨"TripleStoreModel$Reader", "values", "()I"⟩, prog_19_method_44_code, 7, (some .int), [], 21, 0),
  (⟨"TripleStoreModel$Reader", "given", "(IZ)V"⟩, prog_19_method_45_code, 5, none, [], 21, 2),
  (⟨"TripleStoreModel$Reader", "fold", "()I"⟩, prog_19_method_66_code, 1, (some .int), [], 21, 0),
  (⟨"TripleStoreModel$Reader", "among", "(Ljava/lang/String;)I"⟩, prog_19_method_64_code, 7, (some .int), [], 21, 1),
  (⟨"TripleStoreModel$Reader", "aggregate", "(I)I"⟩, prog_19_method_71_code, 5, (some .int), [], 21, 1),
  (⟨"TripleStoreModel$Reader", "functionHere", "()I"⟩, prog_19_method_65_code, 1, (some .int), [], 21, 0),
  (⟨"TripleStoreModel$Reader", "bound", "()I"⟩, prog_19_method_63_code, 2, (some .int), [], 21, 0),
  (⟨"TripleStoreModel$Reader", "call", "(I)I"⟩, prog_19_method_69_code, 7, (some .int), [], 21, 1),
  (⟨"TripleStoreModel$Reader", "join", "(III)I"⟩, prog_19_method_53_code, 4, (some .int), [], 21, 3),
  (⟨"TripleStoreModel$Reader", "two", "(IIII)I"⟩, prog_19_method_50_code, 5, (some .int), [], 21, 4),
  (⟨"TripleStoreModel$Reader", "comparison", "()I"⟩, prog_19_method_56_code, 1, (some .int), [], 21, 0),
  (⟨"TripleStoreModel$Reader", "joinRow", "(IIIZ)I"⟩, prog_19_method_54_code, 5, (some .int), [], 21, 4),
  (⟨"TripleStoreModel$Reader", "keepSeen", "()I"⟩, prog_19_method_73_code, 4, (some .int), [], 21, 0),
  (⟨"TripleStoreModel$Reader", "ends", "(I)V"⟩, prog_19_method_77_code, 2, none, [], 21, 1),
  (⟨"TripleStoreModel$Reader", "keys", "(I)V"⟩, prog_19_method_78_code, 4, none, [], 21, 1),
  (⟨"TripleStoreModel$Reader", "whole", "()I"⟩, prog_19_method_79_code, 1, (some .int), [], 21, 0),
  (⟨"TripleStoreModel$Reader", "check", "(III)V"⟩, prog_19_method_81_code, 9, none, [], 21, 3),
  (⟨"TripleStoreModel$Reader", "isShown", "(II)Z"⟩, prog_19_method_74_code, 4, (some .boolean), [], 21, 2),
  (⟨"TripleStoreModel$Reader", "isSet", "(II)Z"⟩, prog_19_method_80_code, 4, (some .boolean), [], 21, 2),
  (⟨"TripleStoreModel$Reader", "checkGrouped", "(II)V"⟩, prog_19_method_82_code, 10, none, [], 21, 2),
  (⟨"TripleStoreModel$Reader", "bothFacts", "(Z)V"⟩, prog_19_method_83_code, 2, none, [], 21, 1),
  (⟨"TripleStoreModel$Reader", "facts", "(Z)V"⟩, prog_19_method_24_code, 8, none, [], 21, 1),
  (⟨"TripleStoreModel$Reader", "item", "(ZZ)I"⟩, prog_19_method_23_code, 4, (some .int), [], 21, 2),
  (⟨"TripleStoreModel$Reader", "where", "()V"⟩, prog_19_method_84_code, 1, none, [], 21, 0),
  (⟨"TripleStoreModel$Reader", "rule", "()V"⟩, prog_19_method_86_code, 2, none, [], 21, 0),
  (⟨"TripleStoreModel", "act", "()I"⟩, prog_14_method_8_code, 3, (some .int), [((11 : Nat), (16 : Nat), (19 : Nat), (178 : Nat))], 18, 0),
  (⟨"TripleStoreModel", "plans", "()V"⟩, prog_14_method_6_code, 3, none, [], 18, 0),
  (⟨"TripleStoreModel$Doer", "costOf", "()J"⟩, prog_16_method_37_code, 10, (some .long), [], 22, 0),
  (⟨"TripleStoreModel$Doer", "estimated", "(IJ)J"⟩, prog_16_method_36_code, 6, (some .long), [], 22, 2),
  (⟨"TripleStoreModel$Doer", "isKnown", "(JI)Z"⟩, prog_16_method_32_code, 4, (some .boolean), [], 22, 2),
  (⟨"TripleStoreModel$Doer", "estimate", "(IJ)J"⟩, prog_16_method_34_code, 9, (some .long), [], 22, 2),
  (⟨"TripleStoreModel$Doer", "hasTerms", "(II)Z"⟩, prog_16_method_31_code, 5, (some .boolean), [], 22, 2)]
def e_mP6 : List e_M := [(⟨"TripleStoreModel$Doer", "different", "(II)I"⟩, prog_16_method_33_code, 5, (some .int), [], 22, 2),
  (⟨"TripleStoreModel$Doer", "variables", "(I)J"⟩, prog_16_method_35_code, 6, (some .long), [], 22, 1),
  (⟨"TripleStoreModel$Doer", "turn", "()Z"⟩, prog_16_method_38_code, 4, (some .boolean), [], 22, 0),
  (⟨"TripleStoreModel$Doer", "swap", "(II)V"⟩, prog_16_method_39_code, 4, none, [], 22, 2),
  (⟨"TripleStoreModel", "numberOf", "(I)I"⟩, prog_14_method_7_code, 4, (some .int), [], 18, 1),
  (⟨"TripleStoreModel", "done", "()I"⟩, prog_14_method_9_code, 2, (some .int), [], 18, 0),
  (⟨"TripleStoreModel$Doer", "countAll", "(I)V"⟩, prog_16_method_12_code, 3, none, [], 22, 1),
  (⟨"TripleStoreModel$Doer", "count", "()V"⟩, prog_16_method_3_code, 1, none, [], 22, 0),
  (⟨"TripleStoreModel$Doer", "alone", "(IIZ)I"⟩, prog_16_method_17_code, 4, (some .int), [], 22, 3),
  (⟨"TripleStoreModel$Doer", "empty", "(I)V"⟩, prog_16_method_6_code, 3, none, [], 22, 1),
  (⟨"TripleStoreModel$Doer", "cost", "(I)I"⟩, prog_16_method_13_code, 4, (some .int), [], 22, 1),
  (⟨"TripleStoreModel$Doer", "partCost", "(II)I"⟩, prog_16_method_14_code, 5, (some .int), [], 22, 2),
  (⟨"TripleStoreModel$Doer", "joinSelect", "(III)I"⟩, prog_16_method_18_code, 5, (some .int), [], 22, 3),
  (⟨"TripleStoreModel$Doer", "joinAll", "(IIII)I"⟩, prog_16_method_19_code, 8, (some .int), [], 22, 4),
  (⟨"TripleStoreModel$Doer", "fit", "(II)Z"⟩, prog_16_method_10_code, 6, (some .boolean), [], 22, 2),
  (⟨"TripleStoreModel$Doer", "get", "(II)I"⟩, prog_16_method_7_code, 3, (some .int), [], 22, 2),
  (⟨"TripleStoreModel$Doer", "join", "(III)V"⟩, prog_16_method_11_code, 5, none, [], 22, 3),
  (⟨"TripleStoreModel$Doer", "set", "(III)V"⟩, prog_16_method_8_code, 4, none, [], 22, 3),
  (⟨"TripleStoreModel$Doer", "down", "(III)I"⟩, prog_16_method_9_code, 5, (some .int), [], 22, 3),
  (⟨"TripleStoreModel$Doer", "copy", "(II)V"⟩, prog_16_method_5_code, 4, none, [], 22, 2),
  (⟨"TripleStoreModel$Doer", "part", "(III)I"⟩, prog_16_method_23_code, 5, (some .int), [], 22, 3),
  (⟨"TripleStoreModel$Doer", "block", "(III)I"⟩, prog_16_method_42_code, 7, (some .int), [], 22, 3),
  (⟨"TripleStoreModel$Doer", "pattern", "(III)I"⟩, prog_16_method_44_code, 7, (some .int), [], 22, 3),
  (⟨"TripleStoreModel$Doer", "lay", "(IIII)Z"⟩, prog_16_method_43_code, 8, (some .boolean), [], 22, 4),
  (⟨"TripleStoreModel$Doer", "path", "(III)I"⟩, prog_16_method_47_code, 10, (some .int), [], 22, 3),
  (⟨"TripleStoreModel$Doer", "end", "(II)I"⟩, prog_16_method_45_code, 3, (some .int), [], 22, 2),
  (⟨"TripleStoreModel$Doer", "ends", "(IIIIZI)I"⟩, prog_16_method_48_code, 14, (some .int), [], 22, 6),
  (⟨"TripleStoreModel$Doer", "point", "(I)I"⟩, prog_16_method_46_code, 3, (some .int), [], 22, 1),
  (⟨"TripleStoreModel$Paths", "open", "()I"⟩, prog_18_method_9_code, 2, (some .int), [], 26, 0),
  (⟨"TripleStoreModel$Paths", "edges", "(IZII)V"⟩, prog_18_method_12_code, 6, none, [], 26, 4),
  (⟨"TripleStoreModel$Paths", "edge", "(IZII)V"⟩, prog_18_method_11_code, 7, none, [], 26, 4),
  (⟨"TripleStoreModel$Paths", "add", "(II)V"⟩, prog_18_method_10_code, 4, none, [], 26, 2),
  (⟨"TripleStoreModel$Paths", "others", "(IZII)V"⟩, prog_18_method_13_code, 7, none, [], 26, 4),
  (⟨"TripleStoreModel$Paths", "hasNames", "(IZ)Z"⟩, prog_18_method_7_code, 4, (some .boolean), [], 26, 2),
  (⟨"TripleStoreModel$Paths", "isNamed", "(IIZ)Z"⟩, prog_18_method_6_code, 5, (some .boolean), [], 26, 3),
  (⟨"TripleStoreModel$Paths", "marks", "(IZII)V"⟩, prog_18_method_15_code, 13, none, [], 26, 4),
  (⟨"TripleStoreModel$Paths", "spread", "(IZIIZ)V"⟩, prog_18_method_16_code, 10, none, [], 26, 5),
  (⟨"TripleStoreModel$Doer", "as", "(IIIIIJI)I"⟩, prog_16_method_49_code, 12, (some .int), [], 22, 7),
  (⟨"TripleStoreModel$Doer", "optional", "(III)I"⟩, prog_16_method_24_code, 10, (some .int), [], 22, 3),
  (⟨"TripleStoreModel$Doer", "passes", "(II)Z"⟩, prog_16_method_21_code, 5, (some .boolean), [], 22, 2),
  (⟨"TripleStoreModel$Doer", "isTrue", "(II)Z"⟩, prog_16_method_20_code, 6, (some .boolean), [], 22, 2),
  (⟨"TripleStoreModel$Doer", "said", "(I)I"⟩, prog_16_method_52_code, 2, (some .int), [], 22, 1),
  (⟨"TripleStoreModel$Doer", "exists", "(II)Z"⟩, prog_16_method_62_code, 9, (some .boolean), [], 22, 2),
  (⟨"TripleStoreModel$Doer", "aggregate", "(I)I"⟩, prog_16_method_80_code, 7, (some .int), [], 22, 1),
  (⟨"TripleStoreModel$Doer", "rowsOfSet", "(Z)I"⟩, prog_16_method_81_code, 6, (some .int), [], 22, 1),
  (⟨"TripleStoreModel$Doer", "isSameRow", "(II)Z"⟩, prog_16_method_82_code, 4, (some .boolean), [], 22, 2),
  (⟨"TripleStoreModel$Doer", "gather", "(I)I"⟩, prog_16_method_79_code, 14, (some .int), [], 22, 1),
  (⟨"TripleStoreModel$Terms", "compareBytes", "(IIIIII)I"⟩, prog_21_method_20_code, 9, (some .int), [], 19, 6),
  (⟨"TripleStoreModel$Doer", "together", "(IIII)Z"⟩, prog_16_method_83_code, 9, (some .boolean), [], 22, 4),
  (⟨"TripleStoreModel$Doer", "sum", "(III)Z"⟩, prog_16_method_84_code, 7, (some .boolean), [], 22, 3)]
def e_mP7 : List e_M := [(⟨"TripleStoreModel$Digits", "settle", "(I)Z"⟩, prog_15_method_4_code, 4, (some .boolean), [], 24, 1),
  (⟨"TripleStoreModel$Digits", "increase", "()V"⟩, prog_15_method_6_code, 2, none, [], 24, 0),
  (⟨"TripleStoreModel$Doer", "row", "(III)Z"⟩, prog_16_method_85_code, 7, (some .boolean), [], 22, 3),
  (⟨"TripleStoreModel$Doer", "start", "()V"⟩, prog_16_method_66_code, 1, none, [], 22, 0),
  (⟨"TripleStoreModel$Doer", "addPart", "(III)V"⟩, prog_16_method_68_code, 5, none, [], 22, 3),
  (⟨"TripleStoreModel$Terms", "putRow", "(III)V"⟩, prog_21_method_26_code, 5, none, [], 19, 3),
  (⟨"TripleStoreModel$Terms", "put", "(I)V"⟩, prog_21_method_25_code, 2, none, [], 19, 1),
  (⟨"TripleStoreModel$Terms", "putPlain", "(I)V"⟩, prog_21_method_32_code, 2, none, [], 19, 1),
  (⟨"TripleStoreModel$Doer", "function", "(III)I"⟩, prog_16_method_63_code, 12, (some .int), [], 22, 3),
  (⟨"TripleStoreModel$Doer", "truthOf", "(I)I"⟩, prog_16_method_51_code, 2, (some .int), [], 22, 1),
  (⟨"TripleStoreModel$Doer", "truth", "(I)I"⟩, prog_16_method_50_code, 3, (some .int), [], 22, 1),
  (⟨"TripleStoreModel$Doer", "concat", "(II)I"⟩, prog_16_method_69_code, 6, (some .int), [], 22, 2),
  (⟨"TripleStoreModel$Doer", "isPlain", "(I)Z"⟩, prog_16_method_64_code, 2, (some .boolean), [], 22, 1),
  (⟨"TripleStoreModel$Doer", "sameTag", "(II)Z"⟩, prog_16_method_65_code, 6, (some .boolean), [], 22, 2),
  (⟨"TripleStoreModel$Doer", "finish", "(I)I"⟩, prog_16_method_67_code, 3, (some .int), [], 22, 1),
  (⟨"TripleStoreModel$Doer", "one", "(II)I"⟩, prog_16_method_74_code, 6, (some .int), [], 22, 2),
  (⟨"TripleStoreModel$Doer", "number", "(ZZJI)I"⟩, prog_16_method_56_code, 6, (some .int), [], 22, 4),
  (⟨"TripleStoreModel$Doer", "cased", "(IZ)I"⟩, prog_16_method_76_code, 6, (some .int), [], 22, 2),
  (⟨"TripleStoreModel$Doer", "string", "()I"⟩, prog_16_method_75_code, 2, (some .int), [], 22, 0),
  (⟨"TripleStoreModel$Doer", "typeOf", "(I)I"⟩, prog_16_method_77_code, 4, (some .int), [], 22, 1),
  (⟨"TripleStoreModel$Doer", "word", "(ILjava/lang/String;)I"⟩, prog_16_method_73_code, 4, (some .int), [], 22, 2),
  (⟨"TripleStoreModel$Doer", "toName", "(I)I"⟩, prog_16_method_78_code, 4, (some .int), [], 22, 1),
  (⟨"TripleStoreModel$Doer", "piece", "(III)I"⟩, prog_16_method_70_code, 5, (some .int), [], 22, 3),
  (⟨"TripleStoreModel$Doer", "two", "(III)I"⟩, prog_16_method_72_code, 6, (some .int), [], 22, 3),
  (⟨"TripleStoreModel$Doer", "isAt", "(III)Z"⟩, prog_16_method_71_code, 6, (some .boolean), [], 22, 3),
  (⟨"TripleStoreModel$Doer", "in", "(IIZ)I"⟩, prog_16_method_61_code, 9, (some .int), [], 22, 3),
  (⟨"TripleStoreModel$Doer", "equal", "(II)I"⟩, prog_16_method_54_code, 4, (some .int), [], 22, 2),
  (⟨"TripleStoreModel$Doer", "compared", "(III)I"⟩, prog_16_method_58_code, 4, (some .int), [], 22, 3),
  (⟨"TripleStoreModel$Doer", "less", "(II)I"⟩, prog_16_method_55_code, 4, (some .int), [], 22, 2),
  (⟨"TripleStoreModel$Doer", "reckon", "(III)I"⟩, prog_16_method_57_code, 12, (some .int), [], 22, 3),
  (⟨"TripleStoreModel$Digits", "round", "(I)V"⟩, prog_15_method_5_code, 4, none, [], 24, 1),
  (⟨"TripleStoreModel$Doer", "minus", "(III)I"⟩, prog_16_method_26_code, 9, (some .int), [], 22, 3),
  (⟨"TripleStoreModel$Doer", "shares", "(II)Z"⟩, prog_16_method_25_code, 4, (some .boolean), [], 22, 2),
  (⟨"TripleStoreModel$Doer", "union", "(III)I"⟩, prog_16_method_27_code, 6, (some .int), [], 22, 3),
  (⟨"TripleStoreModel$Doer", "bind", "(IIII)I"⟩, prog_16_method_28_code, 7, (some .int), [], 22, 4),
  (⟨"TripleStoreModel$Doer", "gives", "(II)I"⟩, prog_16_method_29_code, 6, (some .int), [], 22, 2),
  (⟨"TripleStoreModel$Doer", "table", "(III)I"⟩, prog_16_method_30_code, 12, (some .int), [], 22, 3),
  (⟨"TripleStoreModel$Doer", "filter", "(III)I"⟩, prog_16_method_22_code, 6, (some .int), [], 22, 3),
  (⟨"TripleStoreModel$Doer", "sets", "(III)I"⟩, prog_16_method_90_code, 10, (some .int), [], 22, 3),
  (⟨"TripleStoreModel$Doer", "alike", "(III)Z"⟩, prog_16_method_91_code, 6, (some .boolean), [], 22, 3),
  (⟨"TripleStoreModel$Doer", "set", "(IIIIII)Z"⟩, prog_16_method_92_code, 14, (some .boolean), [], 22, 6),
  (⟨"TripleStoreModel$Doer", "itemsOf", "(II)V"⟩, prog_16_method_88_code, 5, none, [], 22, 2),
  (⟨"TripleStoreModel$Doer", "keysOf", "(II)V"⟩, prog_16_method_87_code, 5, none, [], 22, 2),
  (⟨"TripleStoreModel$Doer", "plain", "(III)I"⟩, prog_16_method_89_code, 5, (some .int), [], 22, 3),
  (⟨"TripleStoreModel$Doer", "settle", "(IIII)I"⟩, prog_16_method_99_code, 15, (some .int), [], 22, 4),
  (⟨"TripleStoreModel$Doer", "merge", "(IIIIIIII)V"⟩, prog_16_method_100_code, 15, none, [], 22, 8),
  (⟨"TripleStoreModel$Doer", "compareRows", "(IIIII)I"⟩, prog_16_method_96_code, 9, (some .int), [], 22, 5),
  (⟨"TripleStoreModel$Doer", "compareTerms", "(II)I"⟩, prog_16_method_95_code, 3, (some .int), [], 22, 2),
  (⟨"TripleStoreModel$Doer", "markAgain", "(IIIII)V"⟩, prog_16_method_98_code, 16, none, [], 22, 5),
  (⟨"TripleStoreModel$Doer", "compareGiven", "(III)I"⟩, prog_16_method_97_code, 7, (some .int), [], 22, 3)]
def e_mP8 : List e_M := [(⟨"TripleStoreModel$Doer", "project", "(III)V"⟩, prog_16_method_101_code, 5, none, [], 22, 3),
  (⟨"TripleStoreModel", "tell", "(II)I"⟩, prog_14_method_10_code, 7, (some .int), [], 18, 2),
  (⟨"TripleStoreModel", "construct", "(I)I"⟩, prog_14_method_19_code, 5, (some .int), [], 18, 1),
  (⟨"TripleStoreModel", "give", "(III)V"⟩, prog_14_method_17_code, 9, none, [], 18, 3),
  (⟨"TripleStoreModel", "isWhole", "(II)Z"⟩, prog_14_method_16_code, 6, (some .boolean), [], 18, 2),
  (⟨"TripleStoreModel", "item", "(III)I"⟩, prog_14_method_15_code, 4, (some .int), [], 18, 3),
  (⟨"TripleStoreModel", "value", "(II)I"⟩, prog_14_method_11_code, 3, (some .int), [], 18, 2),
  (⟨"TripleStoreModel", "isGiven", "(III)Z"⟩, prog_14_method_13_code, 5, (some .boolean), [], 18, 3),
  (⟨"TripleStoreModel", "addGiven", "(III)V"⟩, prog_14_method_14_code, 5, none, [], 18, 3),
  (⟨"TripleStoreModel", "compareGiven", "(II)I"⟩, prog_14_method_18_code, 5, (some .int), [], 18, 2),
  (⟨"TripleStoreModel", "change", "(I)I"⟩, prog_14_method_25_code, 7, (some .int), [], 18, 1),
  (⟨"TripleStoreModel", "keepBefore", "()V"⟩, prog_14_method_20_code, 2, none, [], 18, 0),
  (⟨"TripleStoreModel", "takeBack", "()I"⟩, prog_14_method_21_code, 2, (some .int), [], 18, 0),
  (⟨"TripleStoreModel$Store", "come", "(III)Z"⟩, prog_20_method_4_code, 5, (some .boolean), [], 20, 3),
  (⟨"TripleStoreModel$Store", "go", "(IZ)Z"⟩, prog_20_method_13_code, 5, (some .boolean), [], 20, 2),
  (⟨"TripleStoreModel$Store", "at", "(II)I"⟩, prog_20_method_9_code, 3, (some .int), [], 20, 2),
  (⟨"TripleStoreModel$Store", "loosen", "(II)V"⟩, prog_20_method_10_code, 4, none, [], 20, 2),
  (⟨"TripleStoreModel$Store", "bind", "(II)Z"⟩, prog_20_method_11_code, 6, (some .boolean), [], 20, 2),
  (⟨"TripleStoreModel$Store", "give", "(I)Z"⟩, prog_20_method_14_code, 7, (some .boolean), [], 20, 1),
  (⟨"TripleStoreModel$Store", "value", "(I)I"⟩, prog_20_method_12_code, 2, (some .int), [], 20, 1),
  (⟨"TripleStoreModel", "addFresh", "(I)V"⟩, prog_14_method_22_code, 3, none, [], 18, 1),
  (⟨"TripleStoreModel", "numberAll", "()Z"⟩, prog_14_method_23_code, 2, (some .boolean), [], 18, 0),
  (⟨"TripleStoreModel", "numberedOf", "(I)I"⟩, prog_14_method_24_code, 3, (some .int), [], 18, 1),
  (⟨"TripleStoreModel", "rule", "()I"⟩, prog_14_method_26_code, 3, (some .int), [], 18, 0),
  (⟨"TripleStoreModel$Terms", "putName", "(II)V"⟩, prog_21_method_30_code, 3, none, [], 19, 2),
  (⟨"TripleStoreModel$Terms", "putText", "(II)V"⟩, prog_21_method_29_code, 5, none, [], 19, 2),
  (⟨"TripleStoreModel", "show", "()I"⟩, prog_14_method_27_code, 2, (some .int), [], 18, 0),
  (⟨"TripleStoreModel$Store", "sort", "()V"⟩, prog_20_method_18_code, 3, none, [], 20, 0),
  (⟨"TripleStoreModel$Store", "sortBy", "(II)V"⟩, prog_20_method_19_code, 12, none, [], 20, 2),
  (⟨"TripleStoreModel$Store", "key", "(III)I"⟩, prog_20_method_17_code, 9, (some .int), [], 20, 3)]
def e_mP : List e_M := e_mP0 ++ e_mP1 ++ e_mP2 ++ e_mP3 ++ e_mP4 ++ e_mP5 ++ e_mP6 ++ e_mP7 ++ e_mP8
def e_mS0 : List e_M := [(⟨"TripleStore", "isLetter", "(I)Z"⟩, prog_1_method_38_code, 1, (some .boolean), [], 1, 1),
  (⟨"TripleStore", "isSmall", "(I)Z"⟩, prog_1_method_36_code, 1, (some .boolean), [], 1, 1),
  (⟨"TripleStore", "isCapital", "(I)Z"⟩, prog_1_method_37_code, 1, (some .boolean), [], 1, 1),
  (⟨"TripleStore$Tokens", "truthIn", "([BIILTripleStore$Value;)Z"⟩, prog_10_method_23_code, 7, (some .boolean), [], 6, 4),
  (⟨"java/lang/StringLatin1", "charAt", "([BI)C"⟩, prog_31_method_2_code, 2, (some .char), [], 13, 2),
  (⟨"java/lang/String", "checkIndex", "(II)V"⟩, prog_30_method_155_code, 2, none, [], 12, 2),
  (⟨"jdk/internal/util/Preconditions", "checkIndex", "(IILjava/util/function/BiFunction;)I"⟩, prog_36_method_11_code, 3, (some .int), [], 31, 3),
  (⟨"java/lang/StringUTF16", "charAt", "([BI)C"⟩, prog_32_method_83_code, 2, (some .char), [], 14, 2),
  (⟨"java/lang/StringUTF16", "checkIndex", "(I[B)V"⟩, prog_32_method_91_code, 2, none, [], 14, 2),
  (⟨"java/lang/StringUTF16", "length", "([B)I"⟩, prog_32_method_6_code, 1, (some .int), [], 14, 1),
  (⟨"java/lang/StringUTF16", "getChar", "([BI)C"⟩, prog_32_method_5_code, 2, (some .char), [], 14, 2),
  (⟨"TripleStore", "compareBytes", "([BII[BII)I"⟩, prog_1_method_32_code, 7, (some .int), [], 1, 6),
  (⟨"java/lang/Integer", "compare", "(II)I"⟩, prog_26_method_40_code, 2, (some .int), [], 17, 2),
  (⟨"java/util/Arrays", "copyOf", "([BI)[B"⟩, prog_35_method_121_code, 3, (some (.array .byte)), [], 15, 2),
  (⟨"TripleStore", "isWordByte", "(I)Z"⟩, prog_1_method_39_code, 1, (some .boolean), [], 1, 1),
  (⟨"TripleStore", "isDigit", "(I)Z"⟩, prog_1_method_35_code, 1, (some .boolean), [], 1, 1),
  (⟨"TripleStore$Tokens", "signOf", "(II)I"⟩, prog_10_method_28_code, 2, (some .int), [], 6, 2),
  (⟨"TripleStore", "isNameByte", "(I)Z"⟩, prog_1_method_40_code, 1, (some .boolean), [], 1, 1),
  (⟨"TripleStore$Tokens", "escaped", "(I)I"⟩, prog_10_method_18_code, 1, (some .int), [], 6, 1),
  (⟨"TripleStore$Tokens", "numberIn", "([BIILTripleStore$Value;)I"⟩, prog_10_method_26_code, 10, (some .int), [], 6, 4),
  (⟨"TripleStore$Tokens", "isIn", "([BIII)Z"⟩, prog_10_method_25_code, 4, (some .boolean), [], 6, 4),
  (⟨"TripleStore$Tokens", "digitIn", "([BII)I"⟩, prog_10_method_24_code, 4, (some .int), [], 6, 3),
  (⟨"TripleStore$Tokens", "fractionIn", "([BIILTripleStore$Value;)I"⟩, prog_10_method_27_code, 9, (some .int), [], 6, 4),
  (⟨"TripleStore$Parser", "operator", "(I)I"⟩, prog_6_method_46_code, 1, (some .int), [], 10, 1),
  (⟨"TripleStore$Parser", "level", "(I)I"⟩, prog_6_method_47_code, 1, (some .int), [], 10, 1),
  (⟨"java/util/Arrays", "fill", "([II)V"⟩, prog_35_method_103_code, 4, none, [], 15, 2),
  (⟨"TripleStore$Triples", "pack", "(III)I"⟩, prog_11_method_3_code, 3, (some .int), [], 8, 3),
  (⟨"java/util/Arrays", "copyOf", "([II)[I"⟩, prog_35_method_123_code, 3, (some (.array .int)), [], 15, 2),
  (⟨"java/util/Arrays", "fill", "([IIII)V"⟩, prog_35_method_104_code, 5, none, [], 15, 4),
  (⟨"java/util/Arrays", "rangeCheck", "(III)V"⟩, prog_35_method_30_code, 3, none, [], 15, 3),
  (⟨"TripleStore$Blocks", "pointOf", "(I)I"⟩, prog_2_method_16_code, 1, (some .int), [], 7, 1),
  (⟨"java/lang/Long", "compare", "(JJ)I"⟩, prog_27_method_42_code, 4, (some .int), [], 32, 2),
  (⟨"TripleStore", "writeNumber", "(JIZ[B)I"⟩, prog_1_method_33_code, 12, (some .int), [], 1, 4),
  (⟨"TripleStore", "putByte", "([BII)V"⟩, prog_1_method_34_code, 3, none, [], 1, 3),
  (⟨"TripleStore$Expressions", "typeOf", "(I)Ljava/lang/String;"⟩, prog_3_method_20_code, 1, (some (.object "java/lang/String")), [], 4, 1),
  (⟨"java/lang/Integer", "bitCount", "(I)I"⟩, prog_26_method_49_code, 1, (some .int), [], 17, 1),
  (⟨"TripleStore$Triples", "fits", "(III)Z"⟩, prog_11_method_2_code, 3, (some .boolean), [], 8, 3),
  (⟨"TripleStoreModel$Lexer", "isDigit", "(I)Z"⟩, prog_17_method_5_code, 1, (some .boolean), [], 23, 1),
  (⟨"TripleStoreModel$Lexer", "isLetter", "(I)Z"⟩, prog_17_method_4_code, 1, (some .boolean), [], 23, 1),
  (⟨"TripleStoreModel$Lexer", "isNameByte", "(I)Z"⟩, prog_17_method_7_code, 1, (some .boolean), [], 23, 1),
  (⟨"TripleStoreModel$Lexer", "isWord", "(I)Z"⟩, prog_17_method_6_code, 1, (some .boolean), [], 23, 1),
  (⟨"TripleStoreModel$Reader", "expression", "(LTripleStoreModel$Reader;)I"⟩, prog_19_method_51_code, 3, (some .int), [], 21, 1),
  (⟨"TripleStoreModel$Reader", "group", "(LTripleStoreModel$Reader;)I"⟩, prog_19_method_38_code, 8, (some .int), [], 21, 1),
  (⟨"TripleStoreModel$Reader", "path", "(LTripleStoreModel$Reader;)I"⟩, prog_19_method_33_code, 2, (some .int), [], 21, 1),
  (⟨"TripleStoreModel$Reader", "least", "(I)I"⟩, prog_19_method_67_code, 1, (some .int), [], 21, 1),
  (⟨"TripleStoreModel$Reader", "most", "(I)I"⟩, prog_19_method_68_code, 1, (some .int), [], 21, 1),
  (⟨"TripleStoreModel$Doer", "select", "(LTripleStoreModel$Doer;II)I"⟩, prog_16_method_86_code, 5, (some .int), [], 22, 3),
  (⟨"TripleStoreModel$Doer", "group", "(LTripleStoreModel$Doer;IIIZ)I"⟩, prog_16_method_16_code, 7, (some .int), [], 22, 5),
  (⟨"TripleStoreModel$Paths", "go", "(LTripleStoreModel$Paths;IZII)V"⟩, prog_18_method_8_code, 7, none, [], 26, 5),
  (⟨"TripleStoreModel$Paths", "most", "(J)J"⟩, prog_18_method_5_code, 2, (some .long), [], 26, 1)]
def e_mS1 : List e_M := [(⟨"TripleStoreModel$Paths", "isMark", "(I)Z"⟩, prog_18_method_14_code, 1, (some .boolean), [], 26, 1),
  (⟨"TripleStoreModel$Doer", "value", "(LTripleStoreModel$Doer;II)I"⟩, prog_16_method_59_code, 8, (some .int), [], 22, 3),
  (⟨"TripleStoreModel$Terms", "rank", "(I)I"⟩, prog_21_method_23_code, 1, (some .int), [], 19, 1),
  (⟨"TripleStoreModel$Terms", "sign", "(JJ)I"⟩, prog_21_method_19_code, 4, (some .int), [], 19, 2),
  (⟨"TripleStoreModel$Terms", "tens", "(I)J"⟩, prog_21_method_21_code, 4, (some .long), [], 19, 1),
  (⟨"TripleStoreModel$Digits", "spread", "([IJI)V"⟩, prog_15_method_2_code, 8, none, [], 24, 3),
  (⟨"TripleStoreModel$Digits", "isLess", "([I[I)Z"⟩, prog_15_method_3_code, 3, (some .boolean), [], 24, 2),
  (⟨"TripleStoreModel$Doer", "opposite", "(I)I"⟩, prog_16_method_53_code, 1, (some .int), [], 22, 1),
  (⟨"TripleStoreModel$Doer", "both", "(III)I"⟩, prog_16_method_60_code, 3, (some .int), [], 22, 3),
  (⟨"TripleStoreModel", "slot", "(III)I"⟩, prog_14_method_12_code, 3, (some .int), [], 18, 3),
  (⟨"TripleStoreModel$Store", "slot", "(III)I"⟩, prog_20_method_2_code, 3, (some .int), [], 20, 3)]
def e_mS : List e_M := e_mS0 ++ e_mS1
def e_mI0 : List e_M := [(⟨"TripleStore", "<init>", "()V"⟩, prog_1_method_1_code, 2, none, [], 1, 0),
  (⟨"TripleStore$Terms", "<init>", "()V"⟩, prog_9_method_1_code, 1, none, [], 2, 0),
  (⟨"TripleStore$Value", "<init>", "()V"⟩, prog_12_method_1_code, 1, none, [], 3, 0),
  (⟨"TripleStore$Triples", "<init>", "()V"⟩, prog_11_method_1_code, 1, none, [], 8, 0),
  (⟨"TripleStore$Rules", "<init>", "(LTripleStore$Terms;LTripleStore$Triples;)V"⟩, prog_8_method_1_code, 3, none, [], 9, 2),
  (⟨"TripleStore$Tokens", "<init>", "([BLTripleStore$Terms;)V"⟩, prog_10_method_1_code, 3, none, [], 6, 2),
  (⟨"TripleStore$Parser", "<init>", "(LTripleStore$Tokens;LTripleStore$Terms;)V"⟩, prog_6_method_1_code, 3, none, [], 10, 2),
  (⟨"TripleStore$Rows", "<init>", "(LTripleStore$Terms;)V"⟩, prog_7_method_1_code, 2, none, [], 11, 1),
  (⟨"TripleStore$Blocks", "<init>", "(LTripleStore$Terms;LTripleStore$Triples;LTripleStore$Rows;)V"⟩, prog_2_method_1_code, 4, none, [], 7, 3),
  (⟨"TripleStore$Expressions", "<init>", "(LTripleStore$Terms;LTripleStore$Rows;)V"⟩, prog_3_method_1_code, 3, none, [], 4, 2),
  (⟨"TripleStore$Groups", "<init>", "(LTripleStore$Terms;LTripleStore$Rows;LTripleStore$Blocks;LTripleStore$Expressions;)V"⟩, prog_4_method_1_code, 5, none, [], 5, 4),
  (⟨"TripleStore$Node", "<init>", "(II)V"⟩, prog_5_method_1_code, 3, none, [], 16, 2),
  (⟨"TripleStoreModel", "<init>", "()V"⟩, prog_14_method_1_code, 1, none, [], 18, 0),
  (⟨"TripleStoreModel$Terms", "<init>", "()V"⟩, prog_21_method_1_code, 1, none, [], 19, 0),
  (⟨"TripleStoreModel$Digits", "<init>", "()V"⟩, prog_15_method_1_code, 1, none, [], 24, 0),
  (⟨"TripleStoreModel$Lexer", "<init>", "(LTripleStoreModel$Terms;)V"⟩, prog_17_method_1_code, 2, none, [], 23, 1),
  (⟨"TripleStoreModel$Tree", "<init>", "()V"⟩, prog_22_method_1_code, 1, none, [], 25, 0),
  (⟨"TripleStoreModel$Store", "<init>", "(LTripleStoreModel$Terms;)V"⟩, prog_20_method_1_code, 2, none, [], 20, 1),
  (⟨"TripleStoreModel$Paths", "<init>", "(LTripleStoreModel$Store;)V"⟩, prog_18_method_1_code, 2, none, [], 26, 1),
  (⟨"TripleStoreModel$Reader", "<init>", "(LTripleStoreModel$Lexer;LTripleStoreModel$Terms;LTripleStoreModel$Tree;LTripleStoreModel$Paths;)V"⟩, prog_19_method_1_code, 5, none, [], 21, 4),
  (⟨"TripleStoreModel$Doer", "<init>", "(LTripleStoreModel$Terms;LTripleStoreModel$Digits;LTripleStoreModel$Store;LTripleStoreModel$Paths;LTripleStoreModel$Tree;)V"⟩, prog_16_method_1_code, 6, none, [], 22, 5)]
def e_mI : List e_M := e_mI0
def e_mtL : List e_M := (e_mV ++ e_mP) ++ (e_mS ++ e_mI)
def e_mt (j : Nat) : Option e_M := e_mtL[j]?
def e_flW : List (Nat × Nat × Nat × Nat) := [(3, 18, 3, 0), (4, 137, 3, 0), (5, 163, 3, 0), (2, 118, 3, 0), (6, 209, 3, 0), (3, 22, 3, 1), (2, 72, 3, 1), (3, 25, 3, 2), (4, 165, 3, 2), (2, 124, 3, 2), (6, 254, 3, 2), (3, 29, 3, 3), (2, 121, 3, 3), (4, 291, 3, 3), (6, 258, 3, 3), (3, 9, 3, 4), (4, 154, 3, 4), (2, 128, 3, 4), (6, 221, 3, 4), (3, 32, 3, 5), (2, 89, 3, 5), (4, 158, 3, 5), (5, 175, 3, 5), (6, 196, 3, 5), (3, 15, 3, 6), (2, 137, 3, 6), (4, 263, 3, 6), (3, 35, 3, 7), (2, 92, 3, 7), (5, 178, 3, 7), (4, 260, 3, 7), (2, 9, 2, 0), (2, 15, 2, 1), (2, 18, 2, 2), (2, 21, 2, 3), (2, 24, 2, 4), (2, 28, 2, 5), (2, 32, 2, 6), (2, 35, 2, 7), (2, 38, 2, 8), (2, 41, 2, 9), (2, 47, 2, 10), (2, 51, 2, 11), (2, 54, 2, 12), (2, 152, 2, 13), (2, 86, 2, 14), (2, 57, 2, 15), (2, 61, 2, 16), (1, 197, 2, 16), (7, 206, 2, 16), (8, 9, 4, 0), (8, 15, 4, 1), (8, 19, 4, 2), (8, 22, 4, 3), (8, 25, 4, 4), (8, 28, 4, 5), (8, 33, 4, 6), (8, 36, 4, 7), (8, 39, 4, 8), (8, 42, 4, 9), (8, 45, 4, 10), (8, 95, 4, 11), (8, 48, 4, 12), (9, 63, 4, 13), (8, 65, 4, 13), (1, 196, 4, 13), (1, 152, 4, 14), (8, 69, 4, 14), (9, 55, 4, 15), (8, 83, 4, 15), (7, 128, 4, 16), (1, 225, 4, 16), (8, 129, 4, 16), (7, 125, 4, 17), (1, 222, 4, 17), (8, 132, 4, 17), (7, 134, 4, 18), (8, 126, 4, 18), (9, 24, 5, 0), (9, 28, 5, 1), (9, 11, 5, 2), (9, 15, 5, 3), (9, 18, 5, 4), (9, 21, 5, 5), (9, 68, 5, 6), (9, 71, 5, 7), (9, 51, 5, 8), (9, 38, 5, 9), (1, 200, 5, 9), (9, 60, 5, 10), (1, 158, 5, 10), (6, 38, 6, 0), (6, 41, 6, 1), (6, 9, 6, 2), (6, 15, 6, 3), (6, 19, 6, 4), (6, 22, 6, 5), (6, 25, 6, 6), (6, 31, 6, 7), (6, 35, 6, 8), (6, 58, 6, 9), (6, 54, 6, 10), (6, 61, 6, 11), (6, 64, 6, 12), (6, 166, 6, 13), (6, 67, 6, 14), (6, 267, 6, 15), (6, 268, 6, 16), (10, 63, 6, 17), (6, 274, 6, 17), (6, 70, 6, 18), (1, 242, 6, 18), (6, 73, 6, 19), (1, 119, 6, 19), (10, 206, 6, 19), (6, 76, 6, 20), (1, 228, 6, 20), (10, 21, 7, 0), (10, 13, 7, 1), (10, 25, 7, 2), (10, 29, 7, 3), (10, 32, 7, 4), (10, 35, 7, 5), (10, 38, 7, 6), (10, 41, 7, 7), (10, 327, 7, 8), (10, 44, 7, 9), (10, 361, 7, 10), (10, 364, 7, 11), (10, 369, 7, 12), (10, 372, 7, 13), (10, 367, 7, 14), (10, 307, 7, 15), (10, 375, 7, 16), (10, 378, 7, 17), (10, 381, 7, 18), (10, 17, 7, 19), (10, 48, 7, 20), (1, 254, 7, 20), (10, 51, 7, 21), (1, 245, 7, 21), (11, 41, 8, 0), (11, 9, 8, 1), (11, 15, 8, 2), (11, 19, 8, 3), (11, 120, 8, 4), (11, 22, 8, 5), (11, 25, 8, 6), (11, 28, 8, 7), (11, 31, 8, 8), (11, 34, 8, 9), (11, 38, 8, 10), (11, 57, 8, 11), (11, 54, 8, 12), (5, 193, 8, 12), (9, 32, 8, 13), (11, 60, 8, 13), (5, 40, 8, 13), (1, 136, 8, 13), (4, 108, 8, 13), (7, 167, 8, 13), (11, 63, 8, 14), (1, 239, 8, 14), (11, 66, 8, 15), (5, 63, 8, 15), (7, 172, 8, 15), (1, 272, 8, 15), (4, 372, 8, 15), (7, 48, 9, 0), (7, 52, 9, 1), (7, 56, 9, 2), (7, 11, 9, 3), (7, 17, 9, 4), (7, 20, 9, 5), (7, 24, 9, 6), (7, 28, 9, 7), (7, 31, 9, 8), (7, 34, 9, 9), (7, 39, 9, 10), (7, 42, 9, 11), (7, 45, 9, 12), (7, 131, 9, 13), (7, 75, 9, 14), (7, 93, 9, 15), (7, 60, 9, 16), (1, 101, 9, 16), (4, 28, 10, 0), (4, 32, 10, 1), (4, 12, 10, 2), (4, 18, 10, 3), (4, 21, 10, 4), (4, 24, 10, 5), (1, 89, 10, 6), (4, 115, 10, 6), (5, 228, 10, 7), (4, 359, 10, 7), (5, 231, 10, 8), (4, 362, 10, 8), (5, 9, 11, 0), (5, 15, 11, 1), (5, 19, 11, 2), (5, 23, 11, 3), (5, 27, 11, 4), (5, 31, 11, 5), (1, 9, 1, 0), (1, 90, 1, 1), (1, 19, 1, 2), (1, 26, 1, 3), (1, 35, 1, 4), (1, 44, 1, 5), (1, 53, 1, 6), (1, 62, 1, 7), (1, 71, 1, 8), (1, 85, 1, 9), (1, 13, 1, 10), (1, 184, 1, 11), (1, 167, 1, 12), (1, 122, 1, 13), (1, 190, 1, 14), (1, 231, 1, 15), (1, 94, 1, 16), (1, 98, 1, 17), (16, 9, 12, 0), (10, 69, 12, 0), (5, 76, 12, 0), (4, 66, 12, 0), (7, 81, 12, 0), (1, 127, 12, 0), (16, 15, 12, 1), (10, 197, 12, 1), (4, 70, 12, 2), (5, 107, 12, 2), (10, 217, 12, 2), (7, 113, 12, 3), (10, 167, 12, 3), (1, 303, 12, 3), (7, 116, 12, 4), (10, 170, 12, 4), (1, 309, 12, 4), (7, 101, 12, 5), (10, 173, 12, 5), (1, 312, 12, 5), (4, 402, 12, 5), (7, 64, 12, 6), (10, 82, 12, 6), (5, 53, 12, 6), (1, 145, 12, 6), (10, 191, 12, 7), (5, 234, 12, 7), (4, 353, 12, 7), (10, 194, 12, 8), (4, 350, 12, 8), (4, 87, 12, 9), (5, 196, 12, 9), (10, 246, 12, 9), (7, 253, 12, 9), (5, 181, 12, 10), (10, 225, 12, 10), (16, 37, 12, 11), (16, 41, 12, 12), (5, 79, 12, 12), (10, 151, 12, 12), (1, 170, 12, 12), (7, 164, 12, 12), (16, 22, 12, 13), (5, 60, 12, 13), (7, 78, 12, 13), (4, 128, 12, 13), (10, 249, 12, 13), (1, 275, 12, 13), (16, 18, 12, 14), (1, 328, 12, 14), (10, 343, 12, 14), (16, 25, 12, 15), (5, 70, 12, 15), (7, 88, 12, 15), (4, 131, 12, 15), (10, 265, 12, 15), (1, 300, 12, 15), (10, 97, 12, 16), (5, 34, 12, 16), (4, 119, 12, 16), (7, 225, 12, 16), (1, 251, 12, 16), (4, 36, 12, 17), (16, 31, 12, 17), (5, 216, 12, 17), (10, 255, 12, 17), (16, 28, 12, 18), (4, 49, 12, 19), (7, 71, 12, 19), (16, 34, 12, 19), (10, 279, 12, 19), (10, 437, 12, 20), (4, 42, 12, 21), (16, 51, 12, 21), (10, 447, 12, 21), (19, 9, 14, 0), (19, 15, 14, 1), (19, 19, 14, 2), (19, 22, 14, 3), (19, 26, 14, 4), (19, 29, 14, 5), (19, 32, 14, 6), (19, 37, 14, 7), (19, 69, 14, 8), (19, 111, 14, 9), (19, 76, 14, 10), (19, 84, 14, 11), (19, 91, 14, 12), (19, 94, 14, 13), (19, 100, 14, 14), (19, 46, 14, 15), (19, 50, 14, 16), (19, 54, 14, 17), (19, 40, 14, 18), (19, 57, 14, 19), (19, 60, 14, 20), (19, 43, 14, 21), (19, 139, 14, 22), (24, 7, 15, 0), (24, 13, 15, 1), (24, 16, 15, 2), (24, 35, 15, 3), (24, 31, 15, 5), (24, 27, 15, 6), (24, 19, 15, 7), (24, 22, 15, 8), (23, 15, 16, 0), (23, 9, 16, 1), (23, 30, 16, 2), (23, 19, 16, 3), (23, 23, 16, 4), (23, 44, 16, 5), (23, 50, 16, 6), (23, 59, 16, 7), (23, 53, 16, 8), (23, 56, 16, 9), (23, 27, 16, 10), (23, 143, 16, 11), (23, 149, 16, 12), (23, 146, 16, 13), (25, 7, 17, 0), (25, 13, 17, 1), (25, 146, 17, 2), (25, 16, 17, 3), (25, 19, 17, 4), (25, 22, 17, 5), (25, 25, 17, 6), (25, 28, 17, 7), (25, 150, 17, 8), (25, 31, 17, 9), (25, 34, 17, 10), (25, 37, 17, 11), (25, 153, 17, 12), (25, 40, 17, 13), (25, 43, 17, 14), (25, 46, 17, 15), (25, 49, 17, 16), (25, 156, 17, 17), (25, 52, 17, 18), (25, 55, 17, 19), (25, 159, 17, 20), (25, 58, 17, 21), (25, 61, 17, 22), (25, 162, 17, 23), (25, 64, 17, 24), (25, 67, 17, 25), (25, 70, 17, 26), (25, 73, 17, 27), (25, 76, 17, 28), (25, 79, 17, 29), (25, 165, 17, 30), (25, 168, 17, 31), (25, 171, 17, 32), (25, 82, 17, 33), (25, 86, 17, 34), (25, 89, 17, 35), (25, 92, 17, 36), (25, 95, 17, 37), (25, 98, 17, 38), (25, 101, 17, 39), (25, 104, 17, 40), (25, 107, 17, 41), (25, 110, 17, 42), (25, 113, 17, 43), (25, 116, 17, 44), (25, 119, 17, 45), (25, 122, 17, 46), (25, 125, 17, 47), (25, 128, 17, 48), (25, 174, 17, 49), (25, 177, 17, 50), (25, 131, 17, 51), (25, 134, 17, 52), (25, 137, 17, 53), (25, 140, 17, 54), (25, 143, 17, 55), (20, 48, 18, 0), (20, 9, 18, 1), (20, 63, 18, 2), (20, 15, 18, 3), (20, 59, 18, 4), (20, 18, 18, 5), (20, 21, 18, 6), (20, 24, 18, 7), (20, 27, 18, 8), (20, 30, 18, 9), (20, 109, 18, 10), (20, 87, 18, 11), (20, 33, 18, 12), (20, 36, 18, 13), (20, 39, 18, 14), (20, 42, 18, 15), (20, 45, 18, 16), (20, 105, 18, 17), (26, 27, 19, 0), (26, 7, 19, 1), (26, 13, 19, 2), (26, 16, 19, 3), (26, 31, 19, 4), (26, 19, 19, 5), (26, 35, 19, 6), (26, 23, 19, 7), (26, 52, 19, 8), (26, 92, 19, 9), (21, 34, 20, 0), (21, 38, 20, 1), (21, 42, 20, 2), (21, 46, 20, 3), (21, 16, 20, 4), (21, 50, 20, 5), (21, 54, 20, 6), (21, 653, 20, 7), (21, 650, 20, 8), (21, 629, 20, 9), (21, 21, 20, 10), (21, 670, 20, 11), (21, 190, 20, 12), (21, 196, 20, 13), (21, 287, 20, 14), (21, 290, 20, 16), (21, 293, 20, 17), (21, 296, 20, 18), (21, 299, 20, 19), (21, 536, 20, 20), (21, 231, 20, 21), (21, 234, 20, 22), (21, 246, 20, 23), (21, 172, 20, 24), (21, 168, 20, 25), (21, 25, 20, 26), (21, 517, 20, 27), (21, 28, 20, 28), (21, 446, 20, 29), (21, 443, 20, 30), (21, 31, 20, 31), (21, 567, 20, 32), (22, 51, 21, 0), (22, 55, 21, 1), (22, 59, 21, 2), (22, 63, 21, 3), (22, 67, 21, 4), (22, 10, 21, 5), (22, 71, 21, 6), (22, 16, 21, 7), (22, 27, 21, 8), (22, 32, 21, 9), (22, 74, 21, 10), (22, 434, 21, 11), (22, 437, 21, 12), (22, 440, 21, 13), (22, 443, 21, 14), (22, 35, 21, 15), (22, 181, 21, 16), (22, 38, 21, 17), (22, 248, 21, 18), (22, 41, 21, 19), (22, 44, 21, 20), (22, 47, 21, 21), (22, 267, 21, 22), (18, 10, 13, 0), (18, 19, 13, 1), (18, 28, 13, 2), (18, 35, 13, 3), (18, 42, 13, 4), (18, 51, 13, 5), (18, 60, 13, 6), (18, 69, 13, 7), (18, 119, 13, 8), (18, 74, 13, 9), (18, 122, 13, 10), (18, 125, 13, 11), (18, 78, 13, 12), (18, 82, 13, 13), (18, 128, 13, 14), (18, 85, 13, 15), (18, 131, 13, 16), (18, 88, 13, 17), (18, 91, 13, 18), (18, 94, 13, 19), (18, 250, 13, 20), (18, 97, 13, 21), (18, 100, 13, 22), (18, 292, 13, 23), (18, 298, 13, 24), (18, 103, 13, 25), (18, 307, 13, 26), (18, 106, 13, 27), (18, 109, 13, 28), (18, 352, 13, 29)]
def e_flN : List (Nat × Nat × Nat × Nat × String) := [(20, 69, 14, 0, "TripleStoreModel"), (21, 97, 14, 0, "TripleStoreModel"), (22, 331, 14, 0, "TripleStoreModel"), (22, 335, 14, 1, "TripleStoreModel"), (21, 626, 14, 1, "TripleStoreModel"), (22, 364, 14, 2, "TripleStoreModel"), (22, 338, 14, 4, "TripleStoreModel"), (22, 458, 14, 5, "TripleStoreModel"), (18, 295, 14, 8, "TripleStoreModel"), (22, 167, 14, 14, "TripleStoreModel"), (23, 168, 14, 15, "TripleStoreModel"), (22, 467, 14, 15, "TripleStoreModel"), (23, 133, 14, 16, "TripleStoreModel"), (22, 344, 14, 16, "TripleStoreModel"), (23, 158, 14, 19, "TripleStoreModel"), (22, 464, 14, 19, "TripleStoreModel"), (23, 169, 14, 20, "TripleStoreModel"), (22, 470, 14, 20, "TripleStoreModel"), (18, 355, 14, 21, "TripleStoreModel"), (22, 528, 14, 21, "TripleStoreModel"), (18, 349, 14, 22, "TripleStoreModel"), (22, 525, 14, 22, "TripleStoreModel"), (22, 379, 15, 5, "TripleStoreModel"), (22, 380, 15, 6, "TripleStoreModel"), (18, 116, 16, 1, "TripleStoreModel"), (18, 112, 16, 2, "TripleStoreModel"), (21, 691, 16, 2, "TripleStoreModel"), (21, 57, 16, 6, "TripleStoreModel"), (21, 123, 16, 7, "TripleStoreModel"), (21, 103, 16, 8, "TripleStoreModel"), (18, 242, 17, 0, "TripleStoreModel"), (21, 117, 17, 0, "TripleStoreModel"), (18, 243, 17, 1, "TripleStoreModel"), (21, 120, 17, 1, "TripleStoreModel"), (21, 109, 17, 2, "TripleStoreModel"), (22, 395, 17, 3, "TripleStoreModel"), (21, 471, 17, 4, "TripleStoreModel"), (22, 401, 17, 4, "TripleStoreModel"), (22, 398, 17, 5, "TripleStoreModel"), (21, 449, 17, 6, "TripleStoreModel"), (22, 422, 17, 6, "TripleStoreModel"), (21, 440, 17, 8, "TripleStoreModel"), (22, 97, 17, 9, "TripleStoreModel"), (21, 341, 17, 9, "TripleStoreModel"), (22, 92, 17, 10, "TripleStoreModel"), (21, 307, 17, 10, "TripleStoreModel"), (22, 121, 17, 11, "TripleStoreModel"), (21, 391, 17, 11, "TripleStoreModel"), (21, 281, 17, 12, "TripleStoreModel"), (22, 100, 17, 13, "TripleStoreModel"), (22, 109, 17, 14, "TripleStoreModel"), (21, 344, 17, 14, "TripleStoreModel"), (22, 103, 17, 15, "TripleStoreModel"), (22, 199, 17, 16, "TripleStoreModel"), (18, 160, 17, 18, "TripleStoreModel"), (22, 115, 17, 18, "TripleStoreModel"), (21, 212, 17, 18, "TripleStoreModel"), (22, 112, 17, 19, "TripleStoreModel"), (21, 228, 17, 19, "TripleStoreModel"), (18, 147, 17, 20, "TripleStoreModel"), (21, 209, 17, 20, "TripleStoreModel"), (22, 240, 17, 21, "TripleStoreModel"), (21, 252, 17, 21, "TripleStoreModel"), (18, 166, 17, 22, "TripleStoreModel"), (21, 255, 17, 22, "TripleStoreModel"), (22, 282, 17, 22, "TripleStoreModel"), (21, 215, 17, 23, "TripleStoreModel"), (22, 228, 17, 24, "TripleStoreModel"), (21, 429, 17, 24, "TripleStoreModel"), (22, 231, 17, 25, "TripleStoreModel"), (21, 411, 17, 25, "TripleStoreModel"), (22, 225, 17, 26, "TripleStoreModel"), (21, 417, 17, 26, "TripleStoreModel"), (22, 237, 17, 27, "TripleStoreModel"), (21, 420, 17, 27, "TripleStoreModel"), (22, 118, 17, 28, "TripleStoreModel"), (21, 426, 17, 28, "TripleStoreModel"), (22, 234, 17, 29, "TripleStoreModel"), (21, 438, 17, 29, "TripleStoreModel"), (21, 408, 17, 30, "TripleStoreModel"), (21, 414, 17, 31, "TripleStoreModel"), (21, 423, 17, 32, "TripleStoreModel"), (21, 544, 17, 33, "TripleStoreModel"), (22, 664, 17, 33, "TripleStoreModel"), (21, 316, 17, 34, "TripleStoreModel"), (22, 633, 17, 34, "TripleStoreModel"), (21, 561, 17, 35, "TripleStoreModel"), (22, 578, 17, 35, "TripleStoreModel"), (21, 335, 17, 36, "TripleStoreModel"), (22, 603, 17, 36, "TripleStoreModel"), (21, 323, 17, 37, "TripleStoreModel"), (22, 600, 17, 37, "TripleStoreModel"), (21, 578, 17, 38, "TripleStoreModel"), (22, 621, 17, 38, "TripleStoreModel"), (21, 581, 17, 39, "TripleStoreModel"), (22, 618, 17, 39, "TripleStoreModel"), (21, 584, 17, 40, "TripleStoreModel"), (22, 630, 17, 40, "TripleStoreModel"), (21, 587, 17, 41, "TripleStoreModel"), (22, 597, 17, 41, "TripleStoreModel"), (21, 590, 17, 42, "TripleStoreModel"), (22, 591, 17, 42, "TripleStoreModel"), (21, 593, 17, 43, "TripleStoreModel"), (22, 677, 17, 43, "TripleStoreModel"), (21, 596, 17, 44, "TripleStoreModel"), (22, 674, 17, 44, "TripleStoreModel"), (21, 552, 17, 45, "TripleStoreModel"), (22, 575, 17, 45, "TripleStoreModel"), (21, 329, 17, 46, "TripleStoreModel"), (22, 642, 17, 46, "TripleStoreModel"), (21, 320, 17, 47, "TripleStoreModel"), (22, 636, 17, 47, "TripleStoreModel"), (21, 326, 17, 48, "TripleStoreModel"), (22, 639, 17, 48, "TripleStoreModel"), (21, 644, 17, 49, "TripleStoreModel"), (21, 541, 17, 50, "TripleStoreModel"), (21, 332, 17, 51, "TripleStoreModel"), (22, 609, 17, 51, "TripleStoreModel"), (21, 572, 17, 52, "TripleStoreModel"), (22, 606, 17, 52, "TripleStoreModel"), (21, 575, 17, 53, "TripleStoreModel"), (21, 620, 17, 54, "TripleStoreModel"), (22, 594, 17, 54, "TripleStoreModel"), (21, 617, 17, 55, "TripleStoreModel"), (22, 648, 17, 55, "TripleStoreModel"), (18, 301, 18, 1, "TripleStoreModel"), (18, 230, 18, 2, "TripleStoreModel"), (26, 69, 18, 3, "TripleStoreModel"), (22, 243, 18, 3, "TripleStoreModel"), (18, 371, 18, 3, "TripleStoreModel"), (26, 74, 18, 4, "TripleStoreModel"), (22, 251, 18, 4, "TripleStoreModel"), (18, 367, 18, 4, "TripleStoreModel"), (18, 346, 18, 7, "TripleStoreModel"), (18, 340, 18, 8, "TripleStoreModel"), (18, 343, 18, 9, "TripleStoreModel"), (18, 220, 18, 10, "TripleStoreModel"), (21, 241, 19, 1, "TripleStoreModel"), (21, 249, 19, 2, "TripleStoreModel"), (21, 273, 19, 6, "TripleStoreModel"), (18, 141, 20, 6, "TripleStoreModel"), (18, 187, 20, 7, "TripleStoreModel"), (18, 190, 20, 8, "TripleStoreModel"), (18, 216, 20, 9, "TripleStoreModel"), (18, 253, 20, 10, "TripleStoreModel"), (18, 313, 20, 11, "TripleStoreModel"), (18, 283, 20, 12, "TripleStoreModel"), (18, 184, 21, 6, "TripleStoreModel"), (18, 157, 21, 15, "TripleStoreModel")]
def e_fl (o idx : Nat) : Option (Nat × Nat) := match e_flW.find? (fun x => x.1 == o && x.2.1 == idx) with
  | some x => some x.2.2
  | none => (e_flN.find? (fun x => x.1 == o && x.2.1 == idx)).map fun x => (x.2.2.1, x.2.2.2.1)
def e_mlW : List (Nat × Nat × Nat × Nat) := [(0, 9, 2, 702), (1, 32, 2, 706), (1, 41, 2, 707), (1, 50, 2, 708), (1, 59, 2, 709), (1, 68, 2, 710), (1, 77, 2, 711), (1, 82, 2, 712), (0, 15, 0, 0), (0, 20, 0, 1), (0, 25, 0, 2), (1, 104, 0, 3), (1, 107, 0, 4), (1, 111, 0, 5), (6, 79, 0, 211), (6, 89, 0, 212), (6, 82, 0, 213), (6, 93, 0, 214), (1, 406, 1, 642), (1, 409, 1, 643), (6, 101, 0, 215), (6, 148, 1, 644), (6, 169, 0, 6), (12, 335, 0, 7), (6, 174, 0, 8), (12, 492, 0, 9), (12, 495, 1, 645), (13, 9, 1, 646), (12, 1059, 1, 647), (12, 498, 1, 648), (14, 67, 1, 649), (14, 48, 1, 650), (14, 414, 1, 646), (14, 71, 1, 651), (6, 235, 0, 10), (3, 38, 0, 11), (6, 128, 0, 216), (6, 142, 0, 12), (2, 75, 0, 217), (2, 79, 0, 218), (2, 68, 0, 219), (2, 140, 0, 220), (1, 386, 1, 653), (2, 83, 0, 221), (2, 95, 0, 222), (2, 113, 1, 654), (2, 99, 0, 223), (2, 103, 0, 224), (6, 154, 0, 225), (6, 162, 0, 13), (3, 45, 0, 6), (3, 50, 0, 8), (3, 42, 0, 14), (6, 105, 0, 226), (6, 139, 0, 227), (1, 412, 1, 641), (1, 415, 1, 656), (6, 132, 0, 228), (6, 136, 1, 657), (6, 108, 0, 229), (6, 181, 0, 11), (6, 184, 0, 14), (6, 112, 0, 230), (6, 190, 0, 231), (6, 115, 0, 232), (6, 193, 1, 659), (6, 197, 0, 233), (6, 206, 0, 15), (6, 200, 0, 234), (6, 213, 0, 235), (6, 124, 1, 660), (6, 237, 1, 661), (6, 241, 1, 662), (6, 247, 0, 16), (6, 251, 1, 663), (6, 222, 0, 236), (6, 227, 0, 17), (3, 60, 0, 18), (6, 121, 0, 237), (6, 86, 0, 19), (1, 115, 0, 20), (10, 57, 0, 21), (10, 66, 2, 713), (10, 72, 0, 238), (10, 76, 0, 19), (10, 114, 0, 22), (10, 145, 0, 23), (10, 200, 0, 239), (10, 161, 0, 24), (10, 100, 0, 25), (6, 280, 0, 26), (10, 138, 0, 27), (10, 213, 0, 240), (10, 182, 0, 28), (10, 111, 0, 29), (6, 277, 0, 25), (10, 219, 0, 241), (10, 384, 0, 242), (10, 148, 0, 30), (10, 185, 0, 31), (10, 240, 0, 243), (10, 440, 0, 244), (10, 118, 0, 32), (10, 451, 0, 33), (2, 148, 0, 11), (10, 390, 0, 245), (10, 393, 0, 246), (10, 243, 0, 34), (10, 396, 0, 247), (10, 443, 0, 248), (10, 399, 0, 249), (10, 310, 0, 250), (10, 93, 0, 251), (10, 282, 0, 252), (10, 272, 0, 35), (10, 289, 0, 36), (16, 44, 0, 37), (16, 48, 0, 38), (10, 285, 0, 253), (10, 292, 0, 254), (10, 157, 0, 255), (10, 127, 0, 39), (6, 271, 0, 40), (10, 325, 0, 256), (10, 330, 0, 257), (10, 337, 0, 258), (10, 346, 0, 259), (10, 340, 0, 260), (10, 276, 0, 26), (10, 349, 0, 261), (10, 355, 0, 262), (10, 358, 0, 263), (10, 188, 0, 41), (10, 352, 0, 42), (10, 333, 0, 264), (10, 176, 0, 265), (10, 295, 0, 266), (10, 298, 0, 267), (10, 228, 0, 268), (10, 301, 0, 269), (10, 89, 0, 43), (10, 222, 0, 270), (10, 252, 0, 37), (10, 258, 0, 271), (10, 304, 0, 272), (10, 314, 0, 273), (10, 262, 0, 38), (10, 318, 0, 274), (10, 321, 0, 275), (10, 402, 0, 276), (10, 425, 0, 277), (10, 405, 0, 278), (10, 408, 0, 279), (10, 387, 0, 280), (10, 411, 1, 664), (10, 414, 1, 665), (10, 417, 0, 281), (10, 422, 0, 282), (10, 434, 0, 283), (10, 419, 0, 284), (10, 428, 0, 285), (10, 431, 0, 286), (10, 203, 0, 287), (10, 231, 0, 288), (10, 237, 0, 289), (10, 234, 0, 290), (10, 79, 0, 291), (10, 121, 0, 44), (10, 209, 0, 292), (10, 268, 0, 293), (10, 85, 0, 294), (10, 107, 0, 295), (10, 142, 0, 296), (10, 154, 0, 297), (10, 179, 0, 45), (10, 164, 0, 298), (10, 103, 0, 46), (1, 123, 0, 299), (1, 249, 0, 47), (1, 201, 0, 48), (8, 101, 0, 49), (8, 108, 0, 300), (8, 86, 1, 666), (1, 257, 0, 50), (7, 67, 0, 301), (7, 84, 0, 302), (7, 119, 0, 51), (8, 139, 0, 52), (8, 57, 1, 667), (8, 135, 0, 303), (7, 137, 0, 53), (7, 97, 0, 304), (7, 153, 0, 305), (7, 141, 0, 306), (7, 160, 0, 307), (5, 56, 0, 54), (5, 97, 0, 309), (5, 125, 0, 55), (11, 70, 1, 668), (11, 76, 1, 669), (15, 13, 1, 670), (5, 129, 0, 310), (5, 45, 0, 308), (5, 49, 0, 56), (11, 105, 0, 57), (11, 94, 0, 58), (11, 109, 0, 59), (11, 97, 0, 60), (11, 80, 0, 55), (11, 84, 0, 311), (11, 101, 0, 61), (11, 112, 0, 54), (11, 116, 0, 62), (5, 67, 0, 312), (5, 82, 0, 63), (5, 88, 0, 64), (7, 176, 0, 313), (7, 187, 0, 65), (7, 190, 0, 314), (7, 193, 0, 60), (7, 196, 0, 315), (7, 203, 0, 61), (7, 199, 0, 54), (7, 180, 0, 316), (7, 211, 0, 66), (7, 215, 0, 317), (7, 218, 1, 671), (7, 221, 0, 318), (7, 228, 0, 319), (7, 236, 0, 320), (7, 250, 0, 67), (7, 240, 0, 321), (7, 256, 0, 322), (7, 244, 0, 323), (7, 260, 0, 324), (7, 247, 0, 325), (7, 264, 0, 326), (7, 232, 0, 327), (7, 183, 0, 62), (5, 91, 0, 328), (5, 143, 0, 57), (5, 147, 0, 59), (5, 133, 0, 329), (4, 52, 0, 331), (4, 45, 0, 332), (4, 60, 0, 54), (4, 73, 0, 58), (4, 77, 0, 33), (4, 83, 0, 333), (4, 111, 0, 60), (4, 91, 0, 10), (4, 94, 0, 334), (4, 56, 0, 68), (3, 64, 0, 69), (4, 98, 0, 335), (4, 134, 0, 70), (4, 138, 0, 336), (4, 142, 0, 69), (4, 146, 0, 71), (3, 89, 0, 72), (3, 93, 1, 672), (3, 99, 0, 73), (4, 150, 0, 74), (4, 101, 0, 337), (4, 356, 0, 75), (11, 123, 0, 338), (4, 365, 0, 76), (11, 131, 0, 339), (11, 137, 0, 340), (11, 126, 0, 77), (2, 64, 0, 40), (2, 158, 1, 653), (2, 163, 0, 341), (2, 166, 1, 672), (11, 134, 0, 342), (11, 138, 0, 78), (4, 369, 0, 343), (4, 412, 0, 79), (4, 246, 0, 16), (4, 375, 0, 55), (4, 378, 0, 12), (4, 381, 0, 61), (4, 385, 0, 80), (4, 388, 0, 81), (4, 392, 0, 344), (4, 395, 0, 345), (4, 398, 0, 346), (4, 207, 0, 11), (4, 294, 0, 72), (4, 297, 0, 73), (4, 304, 0, 347), (4, 328, 0, 348), (4, 311, 0, 349), (4, 184, 0, 17), (4, 315, 0, 350), (4, 346, 0, 351), (4, 405, 0, 352), (4, 254, 0, 14), (4, 216, 0, 82), (4, 233, 0, 83), (3, 102, 0, 82), (1, 400, 1, 674), (3, 113, 0, 13), (4, 409, 0, 353), (4, 418, 0, 77), (4, 105, 0, 354), (4, 169, 0, 355), (4, 177, 0, 356), (4, 204, 0, 357), (4, 173, 0, 358), (4, 308, 0, 359), (4, 342, 0, 360), (4, 180, 0, 361), (4, 188, 0, 362), (4, 191, 0, 363), (4, 210, 0, 84), (4, 213, 0, 85), (4, 219, 0, 18), (4, 194, 0, 364), (4, 222, 0, 86), (4, 198, 0, 365), (4, 226, 0, 87), (3, 72, 0, 88), (4, 229, 0, 88), (4, 201, 0, 366), (4, 236, 0, 367), (4, 266, 1, 675), (4, 270, 0, 13), (4, 239, 0, 368), (4, 243, 0, 369), (5, 150, 0, 60), (5, 154, 0, 62), (5, 94, 0, 370), (5, 157, 0, 89), (5, 137, 0, 78), (5, 110, 0, 58), (5, 114, 0, 371), (5, 166, 0, 12), (5, 171, 0, 90), (5, 118, 0, 61), (5, 122, 0, 372), (5, 160, 0, 35), (5, 73, 0, 373), (5, 184, 0, 374), (5, 219, 0, 375), (5, 190, 0, 80), (5, 199, 0, 81), (5, 207, 0, 76), (5, 222, 0, 79), (5, 225, 0, 376), (5, 187, 0, 377), (5, 203, 0, 378), (5, 210, 0, 379), (5, 237, 0, 91), (5, 240, 0, 37), (5, 243, 0, 92), (11, 142, 0, 79), (5, 213, 0, 380), (1, 264, 0, 55), (1, 132, 0, 381), (1, 139, 0, 382), (1, 278, 0, 383), (1, 285, 0, 93), (1, 294, 0, 91), (1, 297, 0, 384), (1, 306, 0, 65), (1, 315, 0, 94), (1, 319, 0, 61), (1, 322, 0, 92), (1, 325, 0, 54), (1, 281, 0, 62), (1, 288, 0, 76), (1, 291, 0, 38), (1, 142, 0, 385), (1, 340, 0, 386), (1, 360, 0, 95), (1, 176, 0, 58), (1, 363, 0, 90), (1, 366, 0, 80), (1, 369, 0, 81), (1, 373, 0, 96), (1, 376, 0, 97), (1, 379, 0, 98), (9, 41, 0, 58), (1, 337, 0, 99), (8, 92, 0, 100), (8, 75, 0, 101), (8, 61, 0, 387), (1, 346, 0, 102), (9, 64, 0, 103), (9, 74, 0, 388), (9, 86, 0, 49), (9, 89, 0, 389), (9, 92, 0, 390), (9, 82, 0, 391), (9, 78, 0, 392), (9, 95, 1, 676), (9, 101, 0, 393), (9, 120, 0, 94), (9, 126, 0, 104), (8, 53, 1, 677), (9, 129, 1, 667), (9, 132, 0, 101), (9, 104, 0, 394), (9, 107, 0, 395), (9, 117, 0, 105), (9, 110, 0, 106), (9, 113, 0, 107), (1, 383, 0, 108), (1, 350, 0, 109), (2, 155, 0, 3), (1, 148, 0, 396), (1, 155, 0, 100), (1, 161, 0, 397), (1, 331, 0, 110), (1, 334, 0, 398), (1, 356, 0, 111), (8, 72, 0, 104), (8, 79, 0, 112), (1, 343, 0, 399), (1, 358, 0, 113), (1, 353, 0, 114), (1, 164, 0, 400), (0, 29, 0, 115), (0, 33, 0, 116), (0, 37, 0, 117), (0, 41, 0, 118), (1, 173, 0, 35), (1, 180, 0, 119), (2, 184, 0, 33), (2, 192, 0, 401), (2, 196, 0, 402), (2, 203, 0, 83), (2, 207, 0, 403), (0, 46, 0, 120), (1, 187, 0, 121), (0, 51, 0, 122), (0, 55, 0, 123), (0, 59, 0, 124), (1, 193, 0, 125), (0, 63, 0, 126), (0, 67, 0, 127), (0, 71, 0, 128), (0, 75, 0, 129), (0, 79, 0, 130), (0, 83, 0, 131), (1, 204, 0, 53), (1, 208, 0, 104), (1, 211, 0, 112), (0, 88, 0, 132), (1, 215, 0, 133), (1, 218, 0, 52), (0, 12, 2, 714), (18, 25, 2, 717), (18, 41, 2, 719), (18, 48, 2, 720), (18, 57, 2, 721), (18, 66, 2, 722), (0, 19, 0, 134), (0, 24, 0, 135), (0, 32, 0, 136), (0, 28, 0, 137), (18, 134, 0, 138), (18, 137, 0, 139), (21, 682, 0, 140), (21, 685, 0, 141), (21, 686, 0, 142), (21, 73, 0, 404), (21, 66, 0, 143), (23, 47, 0, 405), (23, 40, 0, 406), (23, 62, 0, 407), (23, 37, 1, 678), (23, 65, 0, 408), (23, 152, 0, 409), (23, 155, 0, 144), (19, 63, 0, 145), (23, 116, 0, 410), (23, 119, 0, 146), (19, 79, 0, 147), (19, 72, 0, 411), (19, 87, 0, 412), (23, 33, 1, 679), (23, 68, 0, 413), (23, 127, 0, 148), (23, 95, 0, 143), (23, 99, 0, 6), (23, 104, 0, 8), (23, 108, 0, 145), (23, 71, 0, 414), (23, 159, 0, 415), (23, 113, 0, 149), (23, 162, 0, 416), (23, 85, 0, 417), (23, 122, 1, 680), (23, 165, 0, 418), (23, 174, 0, 419), (23, 181, 0, 420), (23, 74, 1, 681), (23, 77, 0, 421), (23, 81, 0, 422), (23, 88, 0, 423), (23, 91, 0, 424), (21, 62, 0, 425), (21, 688, 0, 426), (21, 86, 0, 427), (21, 80, 0, 148), (21, 304, 0, 428), (21, 402, 0, 429), (21, 89, 0, 430), (21, 85, 0, 431), (21, 70, 0, 150), (21, 354, 0, 432), (21, 84, 0, 433), (21, 76, 0, 151), (21, 547, 0, 434), (21, 570, 0, 435), (21, 106, 0, 436), (21, 394, 0, 437), (21, 397, 1, 682), (21, 455, 0, 438), (21, 477, 0, 439), (21, 480, 0, 440), (21, 488, 0, 441), (21, 491, 0, 442), (21, 458, 0, 443), (21, 461, 0, 444), (21, 494, 0, 445), (21, 93, 0, 446), (21, 162, 0, 447), (21, 452, 0, 152), (21, 497, 0, 448), (21, 130, 0, 449), (21, 114, 0, 450), (21, 364, 0, 451), (21, 405, 0, 452), (21, 180, 0, 453), (21, 361, 0, 454), (21, 369, 1, 683), (21, 284, 0, 153), (21, 199, 0, 455), (21, 310, 0, 456), (21, 206, 0, 457), (21, 202, 0, 458), (21, 313, 0, 459), (21, 338, 0, 460), (21, 225, 0, 461), (21, 347, 0, 462), (21, 176, 0, 463), (21, 165, 0, 464), (21, 218, 0, 465), (21, 221, 0, 466), (21, 237, 1, 684), (21, 258, 0, 467), (21, 267, 0, 468), (21, 261, 0, 469), (21, 270, 0, 470), (21, 159, 0, 471), (21, 187, 0, 472), (21, 156, 0, 473), (21, 135, 0, 145), (21, 139, 0, 6), (21, 144, 0, 8), (21, 148, 0, 149), (21, 151, 0, 146), (21, 264, 0, 154), (21, 276, 0, 474), (21, 279, 0, 155), (21, 193, 0, 475), (21, 350, 0, 156), (21, 371, 0, 476), (21, 376, 0, 477), (21, 381, 0, 478), (21, 386, 0, 479), (21, 432, 0, 480), (21, 500, 0, 481), (21, 522, 0, 482), (21, 503, 0, 483), (21, 506, 0, 484), (21, 511, 0, 485), (21, 514, 0, 486), (21, 530, 1, 685), (21, 533, 1, 686), (21, 474, 0, 487), (21, 468, 0, 488), (21, 483, 0, 489), (21, 464, 0, 490), (21, 555, 0, 491), (21, 558, 0, 492), (21, 607, 0, 493), (21, 612, 0, 494), (21, 564, 0, 495), (21, 635, 0, 496), (21, 638, 0, 497), (21, 641, 0, 498), (21, 659, 0, 499), (21, 647, 0, 500), (21, 183, 0, 501), (21, 662, 0, 502), (21, 675, 0, 503), (18, 144, 0, 504), (18, 169, 0, 157), (18, 172, 0, 505), (18, 150, 0, 158), (22, 287, 0, 506), (22, 270, 0, 507), (22, 256, 0, 508), (22, 263, 0, 509), (22, 253, 0, 510), (22, 260, 0, 511), (22, 275, 0, 512), (22, 291, 0, 513), (22, 279, 0, 514), (18, 153, 0, 159), (18, 163, 0, 515), (18, 175, 0, 516), (18, 193, 0, 160), (22, 124, 0, 517), (22, 89, 0, 518), (22, 128, 1, 687), (22, 208, 0, 519), (22, 146, 0, 520), (22, 149, 1, 688), (22, 132, 0, 521), (22, 106, 0, 522), (22, 136, 0, 523), (22, 153, 0, 524), (22, 157, 0, 525), (22, 81, 0, 526), (22, 161, 0, 527), (22, 85, 0, 528), (22, 164, 0, 529), (22, 77, 0, 530), (22, 140, 0, 531), (22, 187, 0, 532), (22, 295, 0, 159), (22, 298, 0, 533), (22, 304, 0, 534), (22, 301, 0, 535), (22, 308, 0, 536), (22, 311, 0, 537), (22, 315, 0, 538), (22, 318, 0, 161), (26, 48, 0, 539), (26, 44, 1, 689), (26, 40, 0, 540), (26, 77, 0, 541), (26, 65, 1, 690), (26, 55, 0, 542), (26, 59, 0, 543), (26, 80, 0, 544), (26, 84, 0, 545), (26, 62, 0, 546), (26, 88, 1, 691), (26, 95, 0, 547), (22, 324, 0, 162), (22, 327, 0, 548), (22, 190, 0, 549), (22, 184, 0, 550), (22, 178, 0, 551), (22, 172, 1, 692), (22, 404, 0, 552), (22, 341, 0, 145), (22, 347, 0, 163), (22, 407, 0, 553), (22, 410, 0, 554), (22, 548, 0, 555), (22, 558, 0, 556), (22, 360, 0, 144), (22, 552, 0, 557), (22, 218, 0, 164), (19, 104, 0, 165), (19, 108, 0, 149), (22, 357, 0, 166), (19, 122, 1, 693), (19, 114, 1, 694), (19, 126, 0, 167), (19, 129, 0, 168), (19, 118, 1, 695), (19, 132, 0, 169), (19, 135, 0, 558), (22, 555, 0, 559), (22, 561, 0, 560), (22, 565, 0, 170), (22, 350, 0, 167), (22, 568, 0, 171), (24, 42, 1, 696), (22, 572, 0, 172), (24, 46, 1, 697), (24, 50, 0, 561), (22, 376, 0, 173), (24, 39, 0, 562), (22, 563, 0, 563), (22, 482, 0, 564), (22, 488, 0, 565), (22, 461, 0, 165), (22, 473, 0, 149), (22, 510, 0, 174), (19, 186, 0, 175), (19, 155, 0, 566), (19, 142, 0, 567), (19, 173, 0, 568), (19, 161, 0, 176), (19, 145, 0, 6), (19, 149, 0, 8), (19, 180, 0, 177), (22, 413, 0, 569), (22, 419, 0, 570), (22, 175, 0, 571), (22, 446, 0, 572), (22, 476, 0, 573), (22, 479, 0, 574), (22, 485, 0, 169), (22, 491, 0, 575), (22, 449, 0, 576), (22, 383, 0, 577), (22, 506, 0, 578), (22, 513, 0, 579), (22, 515, 0, 580), (22, 539, 0, 581), (22, 498, 0, 6), (22, 502, 0, 8), (22, 518, 0, 582), (22, 521, 0, 178), (22, 452, 0, 583), (22, 455, 0, 584), (22, 494, 0, 585), (22, 416, 0, 586), (22, 386, 0, 587), (22, 354, 0, 168), (22, 389, 1, 698), (22, 425, 1, 699), (22, 428, 0, 588), (22, 392, 0, 589), (22, 431, 0, 590), (22, 367, 0, 179), (22, 373, 0, 180), (24, 54, 0, 591), (22, 193, 0, 592), (22, 212, 0, 593), (22, 196, 0, 594), (22, 202, 0, 595), (22, 215, 0, 596), (22, 221, 0, 181), (19, 97, 0, 146), (22, 205, 0, 597), (22, 143, 0, 598), (22, 582, 0, 599), (22, 624, 0, 600), (22, 627, 0, 601), (22, 612, 0, 602), (22, 615, 0, 603), (22, 585, 0, 604), (22, 588, 0, 605), (22, 660, 0, 606), (22, 680, 0, 607), (22, 645, 0, 608), (22, 651, 0, 182), (22, 654, 0, 183), (22, 667, 0, 609), (22, 657, 0, 610), (22, 671, 0, 611), (18, 196, 0, 612), (18, 233, 0, 182), (18, 236, 0, 183), (18, 204, 0, 613), (18, 286, 0, 614), (18, 266, 0, 615), (18, 259, 0, 616), (18, 256, 0, 617), (18, 262, 0, 184), (18, 270, 0, 618), (18, 246, 1, 700), (18, 276, 0, 619), (18, 289, 0, 620), (18, 280, 0, 166), (18, 210, 0, 621), (18, 316, 0, 622), (18, 319, 0, 185), (20, 66, 0, 186), (18, 322, 0, 186), (18, 325, 0, 623), (18, 304, 0, 187), (18, 226, 0, 188), (20, 102, 0, 624), (20, 56, 0, 189), (20, 52, 1, 701), (20, 112, 0, 625), (20, 79, 0, 626), (20, 75, 0, 627), (20, 83, 0, 628), (20, 90, 0, 629), (20, 94, 0, 630), (20, 98, 0, 184), (18, 328, 0, 631), (18, 331, 0, 632), (18, 310, 0, 190), (18, 334, 0, 633), (18, 337, 0, 191), (18, 213, 0, 634), (18, 223, 0, 192), (18, 180, 0, 193), (0, 36, 0, 194), (0, 40, 0, 195), (0, 45, 0, 196), (18, 358, 0, 197), (19, 165, 0, 635), (19, 168, 0, 636), (18, 361, 0, 637), (0, 50, 0, 198), (0, 54, 0, 199), (0, 58, 0, 200), (0, 62, 0, 201), (0, 66, 0, 202), (0, 70, 0, 203), (0, 74, 0, 204), (0, 78, 0, 205), (0, 82, 0, 206), (0, 87, 0, 207), (18, 369, 0, 208), (20, 122, 0, 638), (20, 116, 0, 639), (20, 119, 0, 640), (0, 92, 0, 209), (18, 374, 0, 210)]
def e_mlN : List (Nat × Nat × Nat × Nat × String) := [(1, 18, 2, 703, "TripleStore"), (2, 46, 2, 704, "TripleStore"), (1, 25, 2, 705, "TripleStore"), (6, 30, 2, 704, "TripleStore"), (4, 11, 2, 704, "TripleStore"), (6, 97, 1, 641, "TripleStore"), (2, 144, 1, 652, "TripleStore"), (6, 178, 1, 655, "TripleStore"), (6, 187, 1, 658, "TripleStore"), (6, 203, 1, 643, "TripleStore"), (6, 118, 1, 656, "TripleStore"), (10, 446, 2, 704, "TripleStore"), (1, 260, 0, 308, "TripleStore"), (5, 140, 0, 330, "TripleStore"), (4, 122, 0, 310, "TripleStore"), (3, 68, 1, 652, "TripleStore"), (3, 105, 1, 673, "TripleStore"), (4, 161, 1, 652, "TripleStore"), (4, 282, 1, 658, "TripleStore"), (4, 250, 1, 642, "TripleStore"), (4, 257, 1, 643, "TripleStore"), (5, 101, 0, 331, "TripleStore"), (1, 268, 0, 310, "TripleStore"), (2, 188, 1, 674, "TripleStore"), (2, 199, 1, 673, "TripleStore"), (6, 283, 1, 674, "TripleStore"), (18, 9, 2, 715, "TripleStoreModel"), (18, 18, 2, 716, "TripleStoreModel"), (18, 34, 2, 718, "TripleStoreModel"), (21, 126, 0, 406, "TripleStoreModel"), (22, 543, 1, 680, "TripleStoreModel"), (18, 239, 0, 526, "TripleStoreModel"), (18, 200, 0, 519, "TripleStoreModel"), (18, 273, 0, 518, "TripleStoreModel"), (18, 207, 0, 520, "TripleStoreModel"), (18, 364, 0, 567, "TripleStoreModel")]
def e_mlO : List (Nat × Nat) := [(1, 1), (2, 3), (3, 3), (8, 3), (9, 3), (6, 3), (10, 3), (11, 3), (7, 3), (4, 3), (5, 3), (16, 3), (18, 1), (19, 3), (24, 1), (23, 3), (25, 1), (20, 3), (26, 1), (21, 3), (27, 1), (22, 3)]
def e_ml (o idx : Nat) : Option (Nat × Nat) := match e_mlW.find? (fun x => x.1 == o && x.2.1 == idx) with
  | some x => some x.2.2
  | none => match e_mlN.find? (fun x => x.1 == o && x.2.1 == idx) with
    | some x => some (x.2.2.1, x.2.2.2.1)
    | none => (e_mlO.find? (fun x => x.1 == o && x.2 == idx)).map fun _ => (9, 0)
def e_kIL : List (Nat × Nat × Int32) := [(11, 141, -1640531535), (5, 246, 1000000), (8, 52, -1640531535), (17, 265, 1431655765), (17, 266, 858993459), (17, 267, 252645135), (9, 116, 1000000), (19, 36, 1002000), (26, 22, 150100), (22, 9, 390000), (22, 31, 110000), (18, 73, 192000), (19, 83, 160000), (21, 634, 1000000), (19, 103, 300000)]
def e_kLL : List (Nat × Nat × Int64) := [(6, 245, 10), (6, 261, 999999999999999999), (10, 130, 1000000), (7, 91, 1000000000001), (7, 151, 1000000000000), (4, 302, 1000000000), (4, 416, -1000000000), (4, 326, -1), (4, 332, 10), (4, 334, 999999999999999999), (4, 300, 2), (1, 395, 10), (1, 404, 48), (23, 137, 100000000000000000), (23, 139, 10), (23, 141, 48), (19, 67, 10), (21, 632, 1000000), (22, 285, -1), (22, 273, 1000000000000), (26, 38, 9000), (24, 25, 10), (19, 153, 48), (0, 13, 4294967295)]
def e_nlL : List (Nat × Nat × Nat) := [(0, 7, 1), (1, 16, 2), (2, 44, 3), (1, 23, 4), (1, 30, 5), (1, 39, 6), (6, 28, 3), (1, 48, 7), (10, 11, 3), (1, 57, 8), (1, 66, 9), (7, 9, 12), (1, 75, 10), (4, 9, 3), (1, 80, 11), (10, 55, 12), (0, 10, 13), (18, 7, 14), (18, 16, 15), (18, 23, 16), (18, 32, 17), (18, 39, 18), (18, 46, 19), (18, 55, 20), (18, 64, 21)]
def e_kI (o idx : Nat) : Option Int32 := (e_kIL.find? (fun x => x.1 == o && x.2.1 == idx)).map fun x => x.2.2
def e_kL (o idx : Nat) : Option Int64 := (e_kLL.find? (fun x => x.1 == o && x.2.1 == idx)).map fun x => x.2.2
def e_nl (o idx : Nat) : Option Nat := (e_nlL.find? (fun x => x.1 == o && x.2.1 == idx)).map fun x => x.2.2
def e_cnL : List Nat := [28, 1, 2, 3, 8, 9, 6, 10, 11, 7, 4, 5, 16, 18, 19, 24, 23, 25, 20, 26, 21, 22]
def e_cn (ci : Nat) : Nat := e_cnL.getD ci 1000000
def e_n0 : Nat := 211
def e_n1 : Nat := 641
def e_n2 : Nat := 702
