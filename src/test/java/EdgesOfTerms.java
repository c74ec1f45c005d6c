/** Parts 1 and 3, TERMS and TEXT: each sentence that names an edge, at it and beyond it. */
public final class EdgesOfTerms extends Check {
    public static void main(String[] args) {
        blanks();
        names();
        nameBytes();
        shortNames();
        wholes();
        wholesTooLarge();
        decimals();
        decimalsTooLarge();
        dots();
        signsBeforeNumbers();
        texts();
        textBytes();
        tagged();
        typed();
        typedTexts();
        typedNumbers();
        typedTruths();
        truths();
        theOrder();
        orderOfBytes();
        orderOfNumbers();
        triples();
        tokensEndAnywhere();
        blanksBetween();
        remarks();
        variables();
        words();
        wordA();
        signs();
        smallerOrName();
        strangeBytes();
        finish();
    }

    private static final String AT = "ASK { VALUES ?a { ";

    /** The terms that a text gives, in THE ORDER. */
    private static void terms(String want, String text) {
        gives(want, "SELECT ?a WHERE { VALUES ?a { " + text + " } }");
    }

    /** The same of numbers with signs, which would else stand behind terms. */
    private static void numbers(String want, String text) {
        gives(want, "SELECT ?a WHERE { VALUES (?a) { (" + text.replace(" ", ")(") + ") } }");
    }

    /** A fault in a list of terms, where @@ stands. */
    private static void termFails(int fault, String marked) {
        failsAt(fault, AT + marked + " } }");
    }

    // 1.

    private static void blanks() {
        about("BLANK: _: and 1 .. 40 word bytes");
        terms("_:b", "_:b");
        terms("_:_ / _:aZ09_", "_:aZ09_ _:_");
        terms("_:" + bytes("b", 40), "_:" + bytes("b", 40));
        termFails(2, "_:" + bytes("b", 40) + "@@c");
        termFails(1, "_:" + bytes("b", 40) + "@@_");
        terms("_:" + bytes("b", 40) + " / 5", "_:" + bytes("b", 40) + "5");
        termFails(1, "@@_:");
        termFails(1, "@@_:-");
        termFails(1, "@@_");
        termFails(1, "@@_b");
    }

    private static void names() {
        about("NAME: <, 1 .. 40 bytes, >");
        terms("<n>", "<n>");
        terms("<" + bytes("n", 40) + ">", "<" + bytes("n", 40) + ">");
        termFails(2, "@@<" + bytes("n", 41) + ">");
        termFails(2, "@@<>");
        termFails(2, "@@<n");
        failsAt(2, AT + "@@<" + bytes("n", 40));
        failsAt(2, "ASK { VALUES ?a { :n@@<");
    }

    private static void nameBytes() {
        about("NAME: bytes 33 .. 126, but none of < > \" \\ ^ { | } and 96");
        StringBuilder all = new StringBuilder();
        String none = "<>\"\\^{|}`";
        for (char b = 33; b <= 126; b++) {
            if (none.indexOf(b) < 0) {
                all.append(b);
            }
        }
        due("how many", 85, all.length());
        terms("<" + all.substring(0, 40) + "> / <" + all.substring(40, 80) + "> / <" + all.substring(80) + ">",
            "<" + all.substring(0, 40) + "><" + all.substring(40, 80) + "><" + all.substring(80) + ">");
        for (int i = 0; i < none.length(); i++) {
            if (none.charAt(i) != '>') {
                fresh();
                termFails(2, "@@<a" + none.charAt(i) + "b>");
            }
        }
        fresh();
        termFails(2, "@@<a b>");
        termFails(2, "@@<a\tb>");
        termFails(2, "@@<a\u007fb>");
        termFails(2, "@@<a\u0080b>");
        termFails(2, "@@<a\u0000b>");
        termFails(2, "<a>@@b>");
    }

    private static void shortNames() {
        about("3: : and 1 .. 40 word bytes (the name of these)");
        terms("<n> / <n0_Z>", ":n0_Z :n");
        terms("<" + bytes("n", 40) + ">", ":" + bytes("n", 40));
        termFails(2, ":" + bytes("n", 40) + "@@n");
        terms("<" + bytes("n", 40) + "> / 7", ":" + bytes("n", 40) + "7");
        termFails(1, "@@:");
        termFails(1, "@@: n");
        termFails(1, "@@::n");
        terms("<n> / <n>", ":n<n>");
        due("it is the same term", 2, run("INSERT DATA { :s :p <s> . <s> <p> :p }"));
        due("two terms", 2, store().terms());
    }

    private static void wholes() {
        about("WHOLE: any number of digits 0 in front (-0 is 0), + or - before them");
        terms("0", "0");
        numbers("0 / 0 / 0 / 0", "00 -0 +0 -000");
        numbers("-7 / 7 / 7", "007 +7 -07");
        terms("999999999999999999", "999999999999999999");
        terms("-999999999999999999", "-999999999999999999");
        terms("999999999999999999", bytes("0", 60) + "999999999999999999");
        terms("-1", "-" + bytes("0", 60) + "1");
        due("0 and -0 are one term", 1, run("INSERT DATA { :a :p 0 , -0 , +0 , 00 }"));
    }

    private static void wholesTooLarge() {
        about("WHOLE: a 19th digit behind these begins the next token");
        terms("0 / 100000000000000000", "1000000000000000000");
        terms("9 / 999999999999999999", "9999999999999999999");
        terms("-999999999999999999 / 9", "-9999999999999999999");
        terms("9 / 999999999999999999", "0009999999999999999999");
        terms("123456789012345678 / 123456789012345678", "123456789012345678123456789012345678");
        terms("0.5 / 123456789012345678", "123456789012345678.5");
        terms("9.5 / 123456789012345678", "1234567890123456789.5");
        terms("12 / 123456789012345678", "12345678901234567800012");
    }

    private static void decimals() {
        about("DECIMAL: with any number of 0s behind; no digits before the dot are needed");
        terms("0.5 / 0.5 / 0.5", "0.5 .5 00.50");
        numbers("-0.5 / 0.5", "-.5 +.5");
        numbers("0.0 / 0.0 / 0.0 / 0.0", "0.0 .0 -0.0 -.000");
        terms("2.0", "2.0000000000000000000000");
        terms("0.000000001", "0.000000001");
        terms("-0.000000001", "-.000000001000000000000000");
        terms("0.123456789", ".123456789000");
        terms("1.5", bytes("0", 30) + "1.5" + bytes("0", 30));
        due("1.5 and 1.50 are one term", 1, run("INSERT DATA { :a :p 1.5 , 1.50 , 01.5 , +1.5 }"));
        due("1 and 1.0 are two", 2, run("INSERT DATA { :a :p 1 , 1.0 }"));
    }

    private static void decimalsTooLarge() {
        about("DECIMAL: unscaled less than 10^18, nine places behind the dot");
        terms("0.0 / 1", "0.00000000001");
        terms("1 / 1.0", "1.0000000001");
        terms("0.123456789 / 1", "0.1234567891");
        terms("0.123456789 / 1", "0.12345678901");
        terms("0.123456789 / 5", "0.123456789005");
        terms("999999999.999999999", "999999999.999999999");
        terms("9 / 999999999.999999999", "999999999.9999999999");
        terms("9 / 9999999999.99999999", "9999999999.999999999");
        terms("99999999999999999.9", "99999999999999999.9");
        terms("9 / 99999999999999999.9", "99999999999999999.99");
        terms("5 / 99999999999999999.0", "99999999999999999.05");
        terms("123456789012345678.0", "123456789012345678.0");
        terms("123456789012345678.0", "123456789012345678.000000000000000000000");
        terms("1 / 123456789012345678.0", "123456789012345678.00000000000000000000001");
        terms("-999999999999999999.0", "-999999999999999999.0");
    }

    private static void dots() {
        about("3: a dot without a digit right behind it belongs to no number");
        answers(1, "INSERT DATA { :a :p 5. }");
        due("a whole", "5", written(store().term(3)));
        answers(2, "INSERT DATA { :a :p 6.:b :p 7 . }");
        failsAt(2, "INSERT DATA { :a :p 6.@@. }");
        failsAt(4, "INSERT DATA { :a :p 6.@@.7 }");
        failsAt(2, "INSERT DATA { :a :p 6.5@@.7 }");
        failsAt(2, AT + "@@-. } }");
        failsAt(2, AT + "@@. } }");
        answers(1, "INSERT DATA { :a :p .5}");
        failsAt(2, "INSERT DATA { :a :p :b@@.5 }");
        failsAt(2, "INSERT DATA { :a :p 6 @@.5 }");
    }

    private static void signsBeforeNumbers() {
        about("3: a - or + belongs to the number, if what was before it is no term, variable or )");
        worth("-5", "-5");
        worth("5", "+5");
        worth("0.5", "+.5");
        worth("-0.5", "-.5");
        worth("4", "9 -5");
        worth("4", "9-5");
        worth("14", "9 - -5");
        worth("14", "9--5");
        worth("14", "9 ++5");
        worth("4", "(9) -5");
        worth("-", "?x -5");
        worth("-", "true -5");
        worth("-45", "9 *-5");
        worth("true", "!-0");
        worth("5", "- -5");
        worth("5", "--5");
        worth("-5", "-(5)");
        worth("-5", "- 5");
        worth("true", "-5<-4");
        worth("true", "-5 IN(-5,-4)");
        fresh();
        failsAt(2, "SELECT (9 @@9 AS ?z) WHERE { }");
        failsAt(2, "SELECT (@@+ 5 AS ?z) WHERE { }");
        failsAt(2, "SELECT (@@+?x AS ?z) WHERE { }");
        failsAt(2, "INSERT DATA { :a :p @@-5 }");
        failsAt(2, "INSERT DATA { :a :p @@+5 }");
        answers(2, "INSERT DATA { :a a -5 , +.5 }");
        failsAt(2, "ASK { ?a ?b @@-5 }");
        failsAt(2, "ASK { ?a (:p) @@-5 }");
        answers(0, "ASK { ?a :p* -5 . ?a :p+ -5 }");
        fresh();
        answers(1, "ASK { VALUES ?a { -5 } }");
        termFails(2, "5 @@-5");
        termFails(2, "-5@@-5");
        gives("-5 / -5", "SELECT ?a WHERE { VALUES (?a) { (-5)(-5) } }");
        gives("-5", "SELECT ?a WHERE { VALUES (?a ?b) { (-5 UNDEF) } }");
        failsAt(2, "SELECT ?a WHERE { } LIMIT @@-1");
        answers(1, "SELECT ?a WHERE { } LIMIT +1");
    }

    private static void texts() {
        about("TEXT: \", 0 .. 64 bytes, \"");
        terms("\"\"", "\"\"");
        terms("\"" + bytes("t", 64) + "\"", "\"" + bytes("t", 64) + "\"");
        termFails(1, "@@\"" + bytes("t", 65) + "\"");
        terms("\"" + bytes("\\n", 64) + "\"", "\"" + bytes("\\n", 64) + "\"");
        termFails(1, "@@\"" + bytes("\\n", 65) + "\"");
        termFails(1, "@@\"abc");
        failsAt(1, AT + "@@\"");
        failsAt(1, AT + "@@\"abc\\\"");
        failsAt(1, AT + "@@\"" + bytes("t", 64));
        fresh();
        answers(1, AT + "\"" + bytes("t", 64) + "\"} }");
        failsAt(2, AT + "\"" + bytes("t", 64) + "\"@@");
    }

    private static void textBytes() {
        about("TEXT: bytes 32 .. 126, 9, 10, 13; \" and \\ with \\ before them, 10, 13, 9 as \\n, \\r, \\t");
        terms("\" !#$%&'()*+,-./09:;<=>?@AZ[]^_`az{|}~\"", "\" !#$%&'()*+,-./09:;<=>?@AZ[]^_`az{|}~\"");
        terms("\"\\\"\\\\\\n\\r\\t\"", "\"\\\"\\\\\\n\\r\\t\"");
        termFails(1, "@@\"a\nb\"");
        termFails(1, "@@\"a\rb\"");
        termFails(1, "@@\"a\tb\"");
        termFails(1, "@@\"a\u001fb\"");
        termFails(1, "@@\"a\u007fb\"");
        termFails(1, "@@\"a\u0080b\"");
        termFails(1, "@@\"a\u0000b\"");
        termFails(1, "@@\"a\\bc\"");
        termFails(1, "@@\"a\\Nc\"");
        termFails(1, "@@\"a\\0c\"");
        termFails(1, "@@\"a\\ c\"");
        worth("1", "STRLEN(\"\\\\\")");
    }

    private static void tagged() {
        about("TAGGED: 1 .. 8 small letters; capitals become small; of more the first eight are the tag");
        terms("\"t\"@e", "\"t\"@e");
        terms("\"t\"@abcdefgh", "\"t\"@abcdefgh");
        termFails(2, "\"t\"@abcdefgh@@i");
        termFails(2, "\"t\"@ABCDEFGH@@IJ");
        terms("\"t\"@abc", "\"t\"@ABc");
        terms("4 / \"t\"@en", "\"t\"@en4");
        failsAt(2, AT + "\"t\"@en@@-us } }");
        fails(1, AT.length() + 3, AT + "\"t\"@ } }");
        fails(1, AT.length() + 3, AT + "\"t\"@1 } }");
        fails(1, AT.length() + 3, AT + "\"t\"@_ } }");
        fails(1, AT.length() + 3, AT + "\"t\"@ en } }");
        fails(1, AT.length() + 4, AT + "\"t\" @en } }");
        terms("\"\"@en", "\"\"@en");
        fresh();
        due("one term", 1, run("INSERT DATA { :a :p \"t\"@en , \"t\"@EN , \"t\"@eN }"));
        due("with many letters", 1, run("INSERT DATA { :a :p \"" + bytes("t", 64) + "\"@abcdefgh }"));
    }

    private static void typed() {
        about("TYPED: a text, ^^, a name, with nothing between");
        terms("\"t\"^^<n>", "\"t\"^^<n>");
        terms("\"\"^^<" + bytes("n", 40) + ">", "\"\"^^<" + bytes("n", 40) + ">");
        terms("\"t\"^^<tagged>", "\"t\"^^<tagged>");
        terms("\"t\"^^<Whole> / \"t\"^^<type> / \"t\"^^<wholes>", "\"t\"^^<type>\"t\"^^<wholes>\"t\"^^<Whole>");
        termFails(2, "\"t\"@@^^<" + bytes("n", 41) + ">");
        termFails(2, "\"t\"@@^^<>");
        termFails(2, "\"t\"@@^^:n");
        termFails(2, "\"t\"@@^^ <n>");
        termFails(2, "\"t\"@@^ ^<n>");
        termFails(2, "\"t\" @@^^<n>");
        termFails(2, "\"t\"@@^<n>");
        termFails(2, "\"t\" @@^<n>");
        termFails(2, "\"t\"@@=^<n>");
        failsAt(2, AT + "\"t\"@@^^");
        failsAt(2, AT + "\"t\"@@^^<n");
    }

    private static void typedTexts() {
        about("3: texts with the type <text>: a text");
        terms("\"t\"", "\"t\"^^<text>");
        terms("\"\"", "\"\"^^<text>");
        terms("\"5\"", "\"5\"^^<text>");
        due("one term", 1, run("INSERT DATA { :a :p \"t\" , \"t\"^^<text> }"));
    }

    private static void typedNumbers() {
        about("3: texts with the types <whole>, <decimal>: what its bytes are, which have to be such a one");
        terms("-5 / 0 / 5 / 5 / 5", "\"5\"^^<whole>\"+5\"^^<whole>\"005\"^^<whole>\"-5\"^^<whole>\"-0\"^^<whole>");
        terms("999999999999999999", "\"0999999999999999999\"^^<whole>");
        String[] noWholes = {"", "x", "5.0", "1e5", " 5", "5 ", "--5", "+", "-", "1000000000000000000", "5\\n"};
        for (String no : noWholes) {
            fresh();
            termFails(2, "\"" + no + "\"@@^^<whole>");
        }
        fresh();
        terms("-0.5 / 0.5 / 5.0", "\"5.0\"^^<decimal>\".50\"^^<decimal>\"-.5\"^^<decimal>");
        String[] noDecimals = {"", "5", "5.", ".", "0.1234567891", "1000000000000000000.0", "5.0 ", "1.5.5", "99999999999999999.99"};
        for (String no : noDecimals) {
            fresh();
            termFails(2, "\"" + no + "\"@@^^<decimal>");
        }
        fresh();
        terms("\"5\"^^<n>", "\"5\"^^<n>");
        termFails(2, "\"\\\"5\\\"^^<whole>\"@@^^<whole>");
        termFails(2, "\"5\"^^<whole>@@^^<n>");
    }

    private static void typedTruths() {
        about("3: texts with the type <truth>");
        terms("false / true", "\"true\"^^<truth>\"false\"^^<truth>");
        String[] none = {"", "TRUE", "tru", "truee", "true ", "1"};
        for (String no : none) {
            termFails(2, "\"" + no + "\"@@^^<truth>");
        }
    }

    private static void truths() {
        about("TRUTH: true, false; a word is a letter, then letters");
        terms("false / true", "true false");
        termFails(2, "@@truefalse");
        termFails(2, "@@True");
        terms("5 / true", "true5");
        termFails(1, "true@@_");
    }

    private static void theOrder() {
        about("THE ORDER: by kinds, 3 and 4 together");
        gives("- / _:z / <a> / -1 / 0.5 / 7 / \"a\" / \"A\"@a / \"A\"^^<a> / false / true",
            "SELECT ?a WHERE { VALUES (?a) { (true)(false)(\"A\"^^<a>)(\"A\"@a)(\"a\")(7)(0.5)(-1)(:a)(_:z)(UNDEF) } }");
        answers(11, "INSERT DATA { _:z a _:z , :a , true , false , \"A\"^^<a> , \"A\"@a , \"a\" , 7 , 0.5 , -1 , <b> }");
        due("numbers too", "_:z <a> <b> <type> -1 0.5 7 \"a\" \"A\"@a \"A\"^^<a> false true", allTerms());
    }

    private static String allTerms() {
        StringBuilder out = new StringBuilder();
        int many = store().terms();
        for (int i = 1; i <= many; i++) {
            out.append(i > 1 ? " " : "").append(written(store().term(i)));
        }
        return out.toString();
    }

    private static void orderOfBytes() {
        about("THE ORDER: by bytes, a row that is the beginning of another one first, then by tags, by types");
        terms("_:B / _:a / _:a0 / _:aa / _:b", "_:b _:aa _:a0 _:a _:B");
        terms("<a> / <a!> / <aa> / <a~>", "<a~> <aa> <a!> <a>");
        terms("\"\" / \"\\t\" / \"\\n\" / \"\\r\" / \" \" / \"!\" / \"\\\"\" / \"#\" / \"[\" / \"\\\\\" / \"]\"",
            "\"]\" \"\\\\\" \"[\" \"#\" \"\\\"\" \"!\" \" \" \"\\r\" \"\\n\" \"\\t\" \"\"");
        terms("\"a\"@b / \"a\"@ba / \"a\"@c / \"b\"@a", "\"b\"@a \"a\"@c \"a\"@ba \"a\"@b");
        terms("\"a\"^^<b> / \"a\"^^<b0> / \"a\"^^<c> / \"aa\"^^<a> / \"b\"^^<a>",
            "\"b\"^^<a> \"aa\"^^<a> \"a\"^^<c> \"a\"^^<b0> \"a\"^^<b>");
    }

    private static void orderOfNumbers() {
        about("THE ORDER: numbers by value, a whole before a decimal");
        terms("-10 / -9.5 / -9 / -9.0 / -0.000000001 / 0 / 0.0 / 0.000000001 / 9 / 9.0 / 10",
            "10 9.0 9 0.000000001 0.0 0 \"-0.000000001\"^^<decimal> \"-9.0\"^^<decimal> \"-9\"^^<whole> \"-9.5\"^^<decimal> \"-10\"^^<whole>");
        terms("-999999999999999999 / -999999999999999999.0 / 999999999999999998 / 999999999999999999 / 999999999999999999.0",
            "999999999999999999.0 999999999999999999 999999999999999998 \"-999999999999999999.0\"^^<decimal> \"-999999999999999999\"^^<whole>");
        terms("99999999999999999.8 / 99999999999999999.9 / 100000000000000000", "100000000000000000 99999999999999999.9 99999999999999999.8");
    }

    private static void triples() {
        about("1: a triple has a blank or name as subject, a name as predicate, any term as object");
        answers(8, "INSERT DATA { :a :p :b , _:b , 1 , 1.5 , \"t\" , \"t\"@e , \"t\"^^<n> , true }");
        answers(1, "INSERT DATA { _:b :p 1 }");
        String[] noSubjects = {"1", "1.5", "\"t\"", "\"t\"@e", "\"t\"^^<n>", "true"};
        for (String no : noSubjects) {
            failsAt(4, "INSERT DATA { @@" + no + " :p 1 }");
        }
        failsAt(2, "INSERT DATA { :a @@_:p 1 }");
        failsAt(2, "INSERT DATA { :a @@1 1 }");
        failsAt(2, "INSERT DATA { :a @@\"t\" 1 }");
        failsAt(2, "INSERT DATA { :a @@true 1 }");
        due("nothing changed", "9 9", store().triples() + " " + store().said());
    }

    // 3.

    private static void tokensEndAnywhere() {
        about("3: behind a token the next one begins, be it in the middle of letters or digits");
        terms("<a> / 5", "5:a");
        failsAt(2, "ASK{?a ?b ?abcdefghijkl@@m}");
        answers(1, "ASK{VALUES?abcdefghijkl{5}}");
        answers(0, "ASK{?a<p>?b,?c.?a:p:q}");
        answers(1, "SELECT?a WHERE{VALUES?a{5}}LIMIT5OFFSET0");
        terms("<a> / 5 / \"t\" / \"t\"@en / true", ":a 5\"t\"\"t\"@en true");
        failsAt(2, "@@ASKA { }");
        failsAt(1, "ASK@@_ { }");
    }

    private static void blanksBetween() {
        about("3: blanks are the bytes 32, 9, 10, 13");
        answers(1, "\t\n\r ASK\t{\n}\r");
        failsAt(1, "ASK @@\u000b{ }");
        failsAt(1, "ASK @@\u000c{ }");
        failsAt(1, "ASK { }@@\u0000");
        failsAt(1, "@@\u00a0ASK { }");
        answers(1, "  ASK  {  }  ");
        failsAt(2, "@@AS K { }");
    }

    private static void remarks() {
        about("3: remarks: # and all up to a byte 10 or the end");
        answers(1, "#\nASK#}\n{#\n}# ~ \u0080 \"");
        failsAt(2, "ASK # { }@@");
        failsAt(2, "ASK # \r { }@@");
        answers(1, "ASK { } ##");
        answers(1, "ASK { } # ASK { }");
        answers(1, "ASK { VALUES ?a { 5#5\n} }");
        terms("\"#\"", "\"#\"");
        terms("<#> / <a#b>", "<a#b> <#>");
        answers(1, "ASK { }#");
    }

    private static void variables() {
        about("3: a variable: ? and 1 .. 12 word bytes");
        answers(1, "SELECT ?a WHERE { }");
        answers(1, "SELECT ?abcdefghijkl WHERE { }");
        failsAt(2, "SELECT ?abcdefghijkl@@m WHERE { }");
        failsAt(2, "SELECT ?abcdefghijkl@@4 WHERE { }");
        failsAt(1, "SELECT ?abcdefghijkl@@_ WHERE { }");
        answers(1, "SELECT ?0 ?_ ?A_9 WHERE { }");
        failsAt(2, "SELECT @@? WHERE { }");
        failsAt(2, "SELECT @@?? WHERE { }");
        failsAt(2, "SELECT @@? a WHERE { }");
        answers(1, "SELECT ?a ?A ?aa WHERE { }");
        answers(1, "SELECT ?abcdefghijkl?bbcdefghijkl WHERE { }");
        due("two", 2, store().columns());
    }

    private static void words() {
        about("3: other words are only what is said in part 4, in capitals");
        failsAt(2, "@@ask { }");
        failsAt(2, "@@Ask { }");
        failsAt(2, "@@FOO");
        failsAt(2, "ASK { @@FOO }");
        failsAt(2, "ASK { FILTER (@@FOO(1)) }");
        failsAt(2, "ASK { FILTER (@@strlen(1)) }");
        failsAt(2, "ASK { FILTER (@@STRLENS(1)) }");
        failsAt(2, "ASK { @@FILTERS (1) }");
        failsAt(2, "@@SELECTED");
        failsAt(2, "SELECT ?a @@where { }");
        failsAt(2, "@@WHERE");
        failsAt(2, "@@a");
    }

    private static void wordA() {
        about("3: the word a, small, as a predicate is the name <type>");
        answers(1, "INSERT DATA { :s a :o }");
        due("its term", "<type>", written(store().term(3)));
        answers(0, "INSERT DATA { :s <type> :o . :s :type :o }");
        answers(1, "ASK { ?s a ?o }");
        answers(1, "ASK { ?s ^a ?o }");
        answers(0, "ASK { ?s !a ?o }");
        failsAt(2, "INSERT DATA { :s @@A :o }");
        failsAt(2, "INSERT DATA { @@a :p :o }");
        failsAt(2, "INSERT DATA { :s :p @@a }");
        failsAt(2, "ASK { FILTER (@@a) }");
        failsAt(2, "ASK { VALUES ?x { @@a } }");
        failsAt(2, "INSERT DATA { :s @@aa :o }");
        answers(0, "RULE { ?s a ?o } => { ?o a ?s }");
        due("it follows", "2 1 3 1", state());
    }

    private static void signs() {
        about("3: signs of one byte and of two; ? is one, & is none");
        failsAt(1, "@@&");
        failsAt(1, "ASK { FILTER (1 @@& 1) }");
        failsAt(1, "ASK { FILTER (1 &&@@& 1) }");
        answers(1, "ASK { FILTER (1&&1||1) }");
        failsAt(2, "ASK { FILTER (1 @@| 1) }");
        failsAt(2, "ASK { FILTER (1 ||@@| 1) }");
        failsAt(2, "ASK { ?a :p@@||:q ?b }");
        failsAt(2, "ASK { FILTER (1 @@! = 1) }");
        failsAt(2, "ASK { FILTER (1 < @@= 1) }");
        failsAt(2, "ASK { FILTER (1 @@=> 1) }");
        failsAt(2, "ASK { FILTER (1 >=@@= 1) }");
        fresh();
        failsAt(2, "RULE { ?a :p ?b } @@= > { ?a :q ?b }");
        failsAt(2, "RULE { ?a :p ?b } @@>= { ?a :q ?b }");
        answers(0, "RULE{?a :p ?b}=>{?a :q ?b}");
        answers(0, "ASK { ?a :p? ?b }");
        answers(0, "ASK { ?a :p ? ?b }");
        failsAt(2, "ASK { ?a :p?@@}");
        failsAt(2, "ASK { ?a :p ? @@? }");
        String others = "$%'@[]`~";
        for (int i = 0; i < others.length(); i++) {
            failsAt(1, "ASK { @@" + others.charAt(i));
        }
        String known = "{ } ( ) . , ; * / | ! + - = < > ^ ? != <= >= && || =>";
        for (String sign : known.split(" ")) {
            failsAt(2, "ASK @@" + (sign.equals("{") ? "* {" : sign));
        }
    }

    private static void smallerOrName() {
        about("3: < begins a name where one of at most 40 bytes and its > are there, and a sign otherwise");
        worth("true", "1<2");
        worth("false", "1 <1");
        worth("true", "1 <=1");
        fresh();
        failsAt(2, "SELECT (1@@<2> AS ?z) WHERE { }");
        failsAt(2, "SELECT (1 @@<2>3 AS ?z) WHERE { }");
        failsAt(2, "SELECT (1 @@<=2> AS ?z) WHERE { }");
        answers(1, "SELECT (1<2 AS ?z) (3>2 AS ?y) WHERE { }");
        due("a blank between them", "true", written(store().cell(0, 0)));
        answers(1, "SELECT (1<2||" + bytes("1||", 12) + "3>2 AS ?z) WHERE { }");
        worth("true", "1<2&&" + bytes("0", 37) + "3>2");
        fresh();
        failsAt(2, "SELECT (1@@<2&&" + bytes("0", 36) + "3>2 AS ?z) WHERE { }");
    }

    private static void strangeBytes() {
        about("FAULT 1: bytes that are no token, at the first one");
        failsAt(1, "ASK { @@\u00ff }");
        failsAt(1, "ASK { } @@\u0080");
        failsAt(1, "ASK @@\u0001{ }");
        failsAt(1, "@@\u007f");
        failsAt(1, "ASK { ?a :p @@\"a } x");
        failsAt(1, "ASK { ?a@@\u00e9 :p 1 }");
        failsAt(2, "ASK { ?a :p @@} \u00ff");
        failsAt(1, "ASK { ?a :p 1 @@\u00ff } x");
    }
}
