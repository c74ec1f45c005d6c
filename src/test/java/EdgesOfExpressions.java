/** Part 8, EXPRESSIONS: each edge that it names, at it and beyond it. */
public final class EdgesOfExpressions extends Check {
    public static void main(String[] args) {
        truth();
        variables();
        orAndByThree();
        not();
        equal();
        equalOfTyped();
        less();
        atMost();
        in();
        notIn();
        sums();
        sumsTooLarge();
        products();
        productsRounded();
        productsTooLarge();
        quotients();
        quotientsRounded();
        quotientsTooLarge();
        opposites();
        wholeNumbers();
        wholeNumbersAtTheEnd();
        ifs();
        coalesce();
        bound();
        strings();
        langAndType();
        toName();
        kinds();
        sameTerm();
        strlen();
        cases();
        substr();
        substrOfFarPlaces();
        concat();
        concatTooLong();
        parts();
        partsWithTags();
        partsOfNone();
        beforeAndAfter();
        errorsIn();
        eachRowAnew();
        numbersOneAfterTheOther();
        finish();
    }

    private static final String ERROR = "?x";
    private static final String[] TEXTS = {"\"t\"", "\"t\"@en"};
    private static final String[] NO_NUMBERS = {":a", "_:b", "\"5\"", "\"5\"@en", "\"5\"^^<n>", "true", ERROR};
    private static final String[] NO_TEXTS = {":a", "_:b", "5", "1.5", "\"t\"^^<n>", "true", ERROR};

    private static void truth() {
        about("8: TRUTH of truths; of numbers that they are not 0; of texts (kind 5) that they have bytes; others ERROR");
        String[] yes = {"true", "1", "-1", "0.000000001", "-0.5", "999999999999999999", "\"t\"", "\" \"", "\"0\"", "\"false\""};
        String[] no = {"false", "0", "-0", "0.0", "\"\"", "\"0\"^^<whole>"};
        String[] error = {":a", "_:b", "\"t\"@en", "\"\"@en", "\"t\"^^<n>", "\"\"^^<n>", ERROR, "1 / 0"};
        for (String one : yes) {
            worth("1", "IF(" + one + ", 1, 0)");
            worth("true", "!!(" + one + ")");
            answers(1, "ASK { FILTER (" + one + ") }");
        }
        for (String one : no) {
            worth("0", "IF(" + one + ", 1, 0)");
            worth("false", "!!(" + one + ")");
            answers(0, "ASK { FILTER (" + one + ") }");
        }
        for (String one : error) {
            worth("-", "IF(" + one + ", 1, 0)");
            worth("-", "!(" + one + ")");
            answers(0, "ASK { FILTER (" + one + ") }");
        }
    }

    private static void variables() {
        about("8: VAR: ERROR if the row gives it nothing");
        worth("-", "?x");
        worth("-", "STR(?x)");
        fresh();
        gives("- - / <a> <a> / 1 1",
            "SELECT ?a (?a AS ?b) WHERE { VALUES (?a) { (1) (UNDEF) (:a) } }");
    }

    private static void orAndByThree() {
        about("8: true || ERROR and false && ERROR are true and false, else ERROR where one is");
        String[] values = {"true", "false", ERROR};
        String[] or = {"true", "true", "true", "true", "false", "-", "true", "-", "-"};
        String[] and = {"true", "false", "-", "false", "false", "false", "-", "false", "-"};
        for (int i = 0; i < 9; i++) {
            worth(or[i], values[i / 3] + " || " + values[i % 3]);
            worth(and[i], values[i / 3] + " && " + values[i % 3]);
        }
        worth("true", "?x || 0 || ?y || 1");
        worth("-", "?x || 0 || ?y");
        worth("false", "?x && 1 && ?y && 0");
        worth("-", "1 && ?x && 1");
        worth("true", "5 || :a");
        worth("-", "0 || :a");
        worth("-", "1 && \"t\"@en");
        worth("false", "\"\" && _:b");
        worth("true", "\"t\" && 1.5");
    }

    private static void not() {
        about("8: ! of the truth");
        worth("false", "!true");
        worth("true", "!0");
        worth("true", "!\"\"");
        worth("false", "!!!\"t\"");
        for (String no : new String[] {":a", "_:b", "\"\"@en", "\"\"^^<n>", ERROR}) {
            worth("-", "!" + no);
        }
    }

    private static void equal() {
        about("8: = : numbers by value; else whether both are one term");
        worth("true", "1 = 1.0");
        worth("true", "0 = -0.0");
        worth("false", "1 = 1.000000001");
        worth("true", "999999999999999999 = 999999999999999999.0");
        worth("false", "999999999999999999 = 999999999999999998");
        worth("true", ":a = <a>");
        worth("false", ":a = \"a\"");
        worth("false", ":a = _:a");
        worth("true", "_:a = _:a");
        worth("false", "\"a\" = \"a\"@en");
        worth("true", "\"a\"@EN = \"a\"@en");
        worth("false", "\"a\"@de = \"a\"@en");
        worth("false", "\"1\" = 1");
        worth("false", "true = 1");
        worth("true", "true != false");
        worth("false", "1 != 1.0");
        worth("true", "\"a\" != \"A\"");
        worth("-", "?x = ?x");
        worth("-", "1 != ?x");
        worth("-", "?x = :a");
    }

    private static void equalOfTyped() {
        about("8: = : ERROR if they are not, and one is of kind 7 and the other of 3 .. 8");
        worth("true", "\"a\"^^<n> = \"a\"^^<n>");
        worth("false", "\"a\"^^<n> != \"a\"^^<n>");
        String[] others = {"1", "1.5", "\"a\"", "\"a\"@en", "\"b\"^^<n>", "\"a\"^^<m>", "true"};
        for (String other : others) {
            worth("-", "\"a\"^^<n> = " + other);
            worth("-", other + " = \"a\"^^<n>");
            worth("-", "\"a\"^^<n> != " + other);
        }
        worth("false", "\"a\"^^<n> = :a");
        worth("false", "_:a = \"a\"^^<n>");
        worth("true", "\"a\"^^<n> != :a");
    }

    private static void less() {
        about("8: < : numbers by value, two texts (5), two truths by THE ORDER; else ERROR");
        worth("true", "1 < 1.5");
        worth("false", "1 < 1.0");
        worth("false", "1.0 < 1");
        worth("true", "-1.5 < -1");
        worth("true", "999999999999999998 < 999999999999999999.0");
        worth("true", "99999999999999999.8 < 99999999999999999.9");
        worth("true", "\"\" < \" \"");
        worth("true", "\"a\" < \"ab\"");
        worth("false", "\"b\" < \"ab\"");
        worth("false", "\"a\" < \"a\"");
        worth("true", "\"B\" < \"a\"");
        worth("true", "\"\\t\" < \"\\n\"");
        worth("true", "false < true");
        worth("false", "true < true");
        worth("false", "true < false");
        String[] pairs = {"1 < \"1\"", "\"a\" < \"b\"@en", "\"a\"@en < \"b\"@en", "\"a\"^^<n> < \"b\"^^<n>", ":a < :b", "_:a < _:b",
            "true < 1", "0 < true", "1 < ?x", "?x < 1", "\"a\" < true"};
        for (String pair : pairs) {
            worth("-", pair);
            worth("-", pair.replace("<", ">").replace("^^>n>", "^^<n>"));
        }
    }

    private static void atMost() {
        about("8: > <= >= likewise (a <= b is not b < a)");
        worth("true", "1 <= 1.0");
        worth("true", "1 >= 1.0");
        worth("false", "1 > 1.0");
        worth("true", "2 > 1");
        worth("false", "2 <= 1");
        worth("true", "\"a\" <= \"a\"");
        worth("true", "\"b\" >= \"ab\"");
        worth("true", "true >= false");
        worth("true", "true <= true");
        worth("-", ":a <= :a");
        worth("-", "\"a\"@en >= \"a\"@en");
        worth("-", "\"a\"^^<n> <= \"a\"^^<n>");
        worth("-", "?x <= 1");
    }

    private static void in() {
        about("8: IN: ERROR if what is asked for is ERROR (also among none); true if one is =, else ERROR if one of these was");
        worth("-", "?x IN ()");
        worth("-", "?x IN (1)");
        worth("false", "1 IN ()");
        worth("true", "1 IN (1.0)");
        worth("true", "1 IN (?x, 1)");
        worth("true", "1 IN (1, ?x)");
        worth("-", "1 IN (?x, 2)");
        worth("-", "1 IN (2, ?x)");
        worth("false", "1 IN (2, 3, :a, \"1\")");
        worth("-", "\"a\"^^<n> IN (\"b\"^^<n>)");
        worth("true", "\"a\"^^<n> IN (\"b\"^^<n>, \"a\"^^<n>)");
        worth("-", "\"a\"^^<n> IN (:a, 5)");
        worth("false", "\"a\"^^<n> IN (:a, _:b)");
        worth("true", "1 + 1 IN (2)");
    }

    private static void notIn() {
        about("8: NOT IN the opposite");
        worth("-", "?x NOT IN ()");
        worth("true", "1 NOT IN ()");
        worth("false", "1 NOT IN (?x, 1.0)");
        worth("-", "1 NOT IN (?x, 2)");
        worth("true", "1 NOT IN (2, 3)");
    }

    private static void sums() {
        about("8: + - *: wholes give a whole, else a decimal");
        worth("3", "1 + 2");
        worth("-1", "1 - 2");
        worth("3.0", "1 + 2.0");
        worth("3.0", "1.0 + 2.0");
        worth("0", "1 - 1");
        worth("0.0", "1 - 1.0");
        worth("0.0", "-0.5 + 0.5");
        worth("0.3", "0.1 + 0.2");
        worth("-0.1", "0.1 - 0.2");
        worth("-1.5", "-1 - 0.5");
        worth("-0.5", "-1 + 0.5");
        worth("0.999999999", "1 - 0.000000001");
        worth("-0.999999999", "0.000000001 - 1");
        worth("1.0", "0.999999999 + 0.000000001");
        worth("1000000000.0", "999999999.999999999 + 0.000000001");
        for (String no : NO_NUMBERS) {
            worth("-", "1 + " + no);
            worth("-", no + " - 1");
            worth("-", no + " * 1.5");
            worth("-", "1 / " + no);
        }
    }

    private static void sumsTooLarge() {
        about("8: ERROR for what is too large (part 1)");
        worth("999999999999999999", "999999999999999998 + 1");
        worth("-", "999999999999999999 + 1");
        worth("-", "999999999999999999 + 999999999999999999");
        worth("-999999999999999999", "-999999999999999998 - 1");
        worth("-", "-999999999999999999 - 1");
        worth("999999999999999999", "999999999999999999 - 0");
        worth("0", "999999999999999999 - 999999999999999999");
        worth("999999999999999999.0", "999999999999999999 + 0.0");
        worth("-", "999999999999999999 + 0.1");
        worth("-", "99999999999999999.9 + 0.01");
        worth("100000000000000000.0", "99999999999999999.9 + 0.1");
        worth("-", "999999999.999999999 + 1");
        worth("-", "1000000000.0 + 0.000000001");
        worth("999999999.999999999", "999999999.999999998 + 0.000000001");
        worth("-999999999.999999999", "-999999999.999999998 - 0.000000001");
        worth("-", "-1000000000.0 - 0.000000001");
        worth("100000000.000000001", "100000000.0 + 0.000000001");
        worth("999999999.999999999", "1000000000 - 0.000000001");
        worth("-", "10000000000 - 0.000000001");
    }

    private static void products() {
        about("8: * of wholes and decimals");
        worth("6", "2 * 3");
        worth("-6", "-2 * 3");
        worth("6", "-2 * -3");
        worth("6.0", "2 * 3.0");
        worth("0", "0 * -5");
        worth("0.0", "0.0 * -5");
        worth("0.25", "0.5 * 0.5");
        worth("-0.000000001", "-0.001 * 0.000001");
        worth("1.0", "0.5 * 2");
        worth("999999999999999999", "999999999999999999 * 1");
        worth("-999999999999999999", "999999999999999999 * -1");
        worth("998001", "999 * 999");
    }

    private static void productsRounded() {
        about("8: more than 9 digits behind the dot are rounded to 9, halves away from 0");
        worth("0.000000001", "0.00001 * 0.00005 * 1");
        worth("0.000000001", "0.5 * 0.000000001");
        worth("-0.000000001", "-0.5 * 0.000000001");
        worth("-0.000000001", "0.5 * -0.000000001");
        worth("0.000000001", "-0.5 * -0.000000001");
        worth("0.0", "0.499999999 * 0.000000001");
        worth("0.0", "-0.499999999 * 0.000000001");
        worth("0.000000002", "1.5 * 0.000000001");
        worth("0.000000001", "1.499999999 * 0.000000001");
        worth("0.000000003", "2.5 * 0.000000001");
        worth("-0.000000003", "-2.5 * 0.000000001");
        worth("0.0", "0.000000001 * 0.000000001");
        worth("1.0", "0.999999999 * 1.000000001");
        worth("0.999999998", "0.999999999 * 0.999999999");
        worth("0.123456789", "1.234567885 * 0.1");
        worth("0.111111111", "1.111111114 * 0.1");
    }

    private static void productsTooLarge() {
        about("8: * too large");
        worth("-", "1000000000 * 1000000000");
        worth("999999999000000000", "999999999 * 1000000000");
        worth("-", "999999999999999999 * 999999999999999999");
        worth("-", "-999999999999999999 * 2");
        worth("999999999999999998", "499999999999999999 * 2");
        worth("-", "500000000000000000 * 2");
        worth("-", "500000000000000000.0 * 2");
        worth("500000000000000000.0", "1000000000000000 * 500.0");
        worth("-", "1000000000.5 * 1000000000.5");
        worth("-", "999999999.999999999 * 1.1");
        worth("-", "333333333.333333333 * 33333");
        worth("999999999.999999999", "333333333.333333333 * 3");
        worth("-", "999999999999999999.0 * 999999999999999999.0");
        worth("0.000000001", "999999999999999999 * 0.0 + 0.000000001");
        worth("999999999.999999999", "999999999999999999 * 0.000000001");
        worth("1000000000.0", "999999999999999999.0 * 0.000000001 + 0.000000001");
        worth("-", "99999999999999999.9 * 1.01");
    }

    private static void quotients() {
        about("8: / always a decimal; ERROR by 0");
        worth("2.0", "4 / 2");
        worth("0.5", "1 / 2");
        worth("-0.5", "1 / -2");
        worth("0.0", "0 / 5");
        worth("0.0", "0.0 / -5");
        worth("-", "1 / 0");
        worth("-", "1 / 0.0");
        worth("-", "0 / 0");
        worth("-", "1.5 / -0");
        worth("2.0", "0.000000002 / 0.000000001");
        worth("999999999999999999.0", "999999999999999999 / 1");
        worth("1.0", "999999999999999999 / 999999999999999999.0");
    }

    private static void quotientsRounded() {
        about("8: / is rounded to 9 digits behind the dot, halves away from 0");
        worth("0.333333333", "1 / 3");
        worth("0.666666667", "2 / 3");
        worth("-0.666666667", "-2 / 3");
        worth("-0.666666667", "2 / -3");
        worth("0.000000001", "1 / 1000000000");
        worth("0.000000001", "1 / 2000000000");
        worth("-0.000000001", "-1 / 2000000000");
        worth("0.0", "1 / 2000000001");
        worth("0.0", "-1 / 2000000001");
        worth("0.000000002", "3 / 2000000000");
        worth("0.0", "1 / 999999999999999999");
        worth("0.0", "0.000000001 / 999999999999999999");
        worth("0.142857143", "1 / 7");
        worth("1.0", "999999999999999998 / 999999999999999999");
        worth("0.5", "0.5 / 1");
        worth("0.00000001", "0.000000001 / 0.1");
        worth("333333333.333333333", "999999999.999999999 / 3");
        worth("333333333.333333333", "1000000000 / 3");
    }

    private static void quotientsTooLarge() {
        about("8: / too large");
        worth("-", "1000000000 / 0.000000001");
        worth("999999999000000000.0", "999999999 / 0.000000001");
        worth("-", "999999999999999999 / 0.5");
        worth("-", "999999999999999999 / 0.000000001");
        worth("-", "10000000000 / 3");
        worth("3333333333.5", "6666666667 / 2");
        worth("-", "200000000000000001 / 2");
        worth("50000000000000000.5", "100000000000000001 / 2");
        worth("-", "999999999999999999 / -0.1");
    }

    private static void opposites() {
        about("8: - of one: the opposite; ABS");
        worth("-5", "- 5");
        worth("5", "- -5");
        worth("0", "- 0");
        worth("0.0", "- 0.0");
        worth("-1.5", "-(1.5)");
        worth("-999999999999999999", "-(999999999999999999)");
        worth("5", "ABS(-5)");
        worth("0.5", "ABS(-.5)");
        worth("0", "ABS(-0)");
        worth("999999999999999999", "ABS(-999999999999999999)");
        for (String no : NO_NUMBERS) {
            worth("-", "-(" + no + ")");
            worth("-", "ABS(" + no + ")");
        }
    }

    private static void wholeNumbers() {
        about("8: CEIL, FLOOR, ROUND (halves up): whole numbers of the same kind");
        String[] numbers = {"1", "1.0", "1.5", "-1.5", "0.5", "-0.5", "2.5", "-2.5", "1.499999999", "-1.499999999", "-1.500000001",
            "0.000000001", "-0.000000001", "0", "-7"};
        String[] ceil = {"1", "1.0", "2.0", "-1.0", "1.0", "0.0", "3.0", "-2.0", "2.0", "-1.0", "-1.0", "1.0", "0.0", "0", "-7"};
        String[] floor = {"1", "1.0", "1.0", "-2.0", "0.0", "-1.0", "2.0", "-3.0", "1.0", "-2.0", "-2.0", "0.0", "-1.0", "0", "-7"};
        String[] round = {"1", "1.0", "2.0", "-1.0", "1.0", "0.0", "3.0", "-2.0", "1.0", "-1.0", "-2.0", "0.0", "0.0", "0", "-7"};
        for (int i = 0; i < numbers.length; i++) {
            worth(ceil[i], "CEIL(" + numbers[i] + ")");
            worth(floor[i], "FLOOR(" + numbers[i] + ")");
            worth(round[i], "ROUND(" + numbers[i] + ")");
        }
        for (String no : NO_NUMBERS) {
            worth("-", "CEIL(" + no + ")");
            worth("-", "FLOOR(" + no + ")");
            worth("-", "ROUND(" + no + ")");
        }
    }

    private static void wholeNumbersAtTheEnd() {
        about("8: CEIL, FLOOR, ROUND of the largest numbers");
        worth("100000000000000000.0", "CEIL(99999999999999999.9)");
        worth("99999999999999999.0", "FLOOR(99999999999999999.9)");
        worth("100000000000000000.0", "ROUND(99999999999999999.5)");
        worth("-100000000000000000.0", "FLOOR(-99999999999999999.1)");
        worth("-99999999999999999.0", "ROUND(-99999999999999999.5)");
        worth("999999999999999999", "CEIL(999999999999999999)");
        worth("999999999999999999.0", "ROUND(999999999999999999.0)");
        worth("1000000000.0", "ROUND(999999999.999999999)");
    }

    private static void ifs() {
        about("8: IF: of three, the second if the first's truth is true, the third if false");
        worth("2", "IF(1, 2, 3)");
        worth("3", "IF(0, 2, 3)");
        worth("-", "IF(?x, 2, 3)");
        worth("-", "IF(:a, 2, 3)");
        worth("-", "IF(1, ?x, 3)");
        worth("3", "IF(0, ?x, 3)");
        worth("2", "IF(1, 2, 1 / 0)");
        worth("-", "IF(0, 2, 1 / 0)");
        worth("\"t\"@en", "IF(\"t\", \"t\"@en, :a)");
        worth("_:b", "IF(\"\", 1, _:b)");
    }

    private static void coalesce() {
        about("8: COALESCE: the first that is no ERROR");
        worth("1", "COALESCE(1)");
        worth("-", "COALESCE(?x)");
        worth("2", "COALESCE(?x, 1 / 0, 2, 3)");
        worth("-", "COALESCE(?a, ?b, ?c, ?d, ?e, ?f, ?g, ?h)");
        worth("8", "COALESCE(?a, ?b, ?c, ?d, ?e, ?f, ?g, 8)");
        worth("false", "COALESCE(?x, false, true)");
        worth("\"\"", "COALESCE(\"\", 1)");
    }

    private static void bound() {
        about("8: BOUND");
        worth("false", "BOUND(?x)");
        fresh();
        gives("- false / 0 true", "SELECT ?a (BOUND(?a) AS ?b) WHERE { VALUES ?a { UNDEF 0 } }");
        gives("-", "SELECT ?a WHERE { BIND (1 / 0 AS ?a) FILTER (!BOUND(?a)) }");
    }

    private static void strings() {
        about("8: STRING, STR: of names, numbers, truths, texts; of a blank ERROR");
        worth("\"a\"", "STR(:a)");
        worth("\"#!~\"", "STR(<#!~>)");
        worth("\"5\"", "STR(+05)");
        worth("\"-5\"", "STR(-5)");
        worth("\"0\"", "STR(-0)");
        worth("\"0.5\"", "STR(.50)");
        worth("\"-2.0\"", "STR(-2.0)");
        worth("\"-0.000000001\"", "STR(-0.000000001)");
        worth("\"999999999.999999999\"", "STR(999999999.999999999)");
        worth("\"-999999999999999999.0\"", "STR(-999999999999999999.0)");
        worth("\"true\"", "STR(true)");
        worth("\"false\"", "STR(1 = 2)");
        worth("\"t\\n\\\"\"", "STR(\"t\\n\\\"\")");
        worth("\"t\"", "STR(\"t\"@en)");
        worth("\"t\"", "STR(\"t\"^^<n>)");
        worth("-", "STR(_:b)");
        worth("-", "STR(?x)");
        worth("\"" + bytes("n", 40) + "\"", "STR(<" + bytes("n", 40) + ">)");
        worth("\"" + bytes("t", 64) + "\"", "STR(\"" + bytes("t", 64) + "\"@en)");
    }

    private static void langAndType() {
        about("8: LANG: of kind 6 the tag, of 3 .. 8 else no bytes; DATATYPE");
        String[] terms = {"\"t\"@ab", "\"t\"", "\"t\"^^<n>", "5", "1.5", "true", ":a", "_:b", ERROR, "\"\"@abcdefgh"};
        String[] langs = {"\"ab\"", "\"\"", "\"\"", "\"\"", "\"\"", "\"\"", "-", "-", "-", "\"abcdefgh\""};
        String[] types = {"<tagged>", "<text>", "<n>", "<whole>", "<decimal>", "<truth>", "-", "-", "-", "<tagged>"};
        for (int i = 0; i < terms.length; i++) {
            worth(langs[i], "LANG(" + terms[i] + ")");
            worth(types[i], "DATATYPE(" + terms[i] + ")");
        }
        worth("<tagged>", "DATATYPE(\"t\"^^<tagged>)");
        worth("<text>", "DATATYPE(\"t\"^^<text>)");
        worth("<" + bytes("n", 40) + ">", "DATATYPE(\"t\"^^<" + bytes("n", 40) + ">)");
        worth("\"\"", "LANG(\"t\"^^<tagged>)");
    }

    private static void toName() {
        about("8: TONAME: of a text (5) the name of its bytes, a name itself; ERROR for others, and where that is none");
        worth("<a>", "TONAME(\"a\")");
        worth("<a>", "TONAME(:a)");
        worth("-", "TONAME(\"\")");
        worth("<" + bytes("n", 40) + ">", "TONAME(\"" + bytes("n", 40) + "\")");
        worth("-", "TONAME(\"" + bytes("n", 41) + "\")");
        worth("-", "TONAME(\"" + bytes("n", 64) + "\")");
        worth("<!~>", "TONAME(\"!~\")");
        String[] none = {"a b", "\\n", "<", ">", "\\\"", "\\\\", "^", "{", "|", "}", "`", "a\\t"};
        for (String no : none) {
            worth("-", "TONAME(\"" + no + "\")");
        }
        for (String no : new String[] {"_:b", "5", "1.5", "\"a\"@en", "\"a\"^^<n>", "true", ERROR}) {
            worth("-", "TONAME(" + no + ")");
        }
    }

    private static void kinds() {
        about("8: ISNAME, ISBLANK, ISLITERAL (3 .. 8), ISNUMERIC");
        String[] terms = {"_:b", ":a", "5", "1.5", "\"t\"", "\"t\"@en", "\"t\"^^<n>", "true"};
        for (int i = 0; i < terms.length; i++) {
            worth(String.valueOf(i == 1), "ISNAME(" + terms[i] + ")");
            worth(String.valueOf(i == 0), "ISBLANK(" + terms[i] + ")");
            worth(String.valueOf(i >= 2), "ISLITERAL(" + terms[i] + ")");
            worth(String.valueOf(i == 2 || i == 3), "ISNUMERIC(" + terms[i] + ")");
        }
        for (String function : new String[] {"ISNAME", "ISBLANK", "ISLITERAL", "ISNUMERIC"}) {
            worth("-", function + "(?x)");
        }
        worth("true", "ISNUMERIC(\"5\"^^<whole>)");
        worth("false", "ISNUMERIC(\"5\"^^<n>)");
    }

    private static void sameTerm() {
        about("8: SAMETERM");
        worth("true", "SAMETERM(1, 01)");
        worth("false", "SAMETERM(1, 1.0)");
        worth("true", "SAMETERM(1.5, 1.50)");
        worth("false", "SAMETERM(\"a\", \"a\"@en)");
        worth("true", "SAMETERM(\"a\"@EN, \"a\"@en)");
        worth("true", "SAMETERM(\"a\"^^<n>, \"a\"^^<n>)");
        worth("false", "SAMETERM(\"a\"^^<n>, \"b\"^^<n>)");
        worth("false", "SAMETERM(_:a, :a)");
        worth("true", "SAMETERM(<a>, :a)");
        worth("false", "SAMETERM(true, false)");
        worth("-", "SAMETERM(?x, ?x)");
        worth("-", "SAMETERM(1, ?x)");
        worth("-", "SAMETERM(?x, 1)");
    }

    // Of texts.

    private static void strlen() {
        about("8: STRLEN how many bytes, a whole");
        worth("0", "STRLEN(\"\")");
        worth("64", "STRLEN(\"" + bytes("t", 64) + "\")");
        worth("4", "STRLEN(\"\\n\\t\\\"\\\\\"@en)");
        for (String no : NO_TEXTS) {
            worth("-", "STRLEN(" + no + ")");
        }
    }

    private static void cases() {
        about("8: UCASE, LCASE; these are of the same kind and tag");
        worth("\"AZ[`{@09\"", "UCASE(\"aZ[`{@09\")");
        worth("\"az[`{@09\"@en", "LCASE(\"AZ[`{@09\"@en)");
        worth("\"\"@en", "UCASE(\"\"@en)");
        worth("\"" + bytes("T", 64) + "\"", "UCASE(\"" + bytes("t", 64) + "\")");
        for (String no : NO_TEXTS) {
            worth("-", "UCASE(" + no + ")");
            worth("-", "LCASE(" + no + ")");
        }
    }

    private static void substr() {
        about("8: SUBSTR t s n: the bytes at places p (from 1) with s <= p < s + n");
        String[] starts = {"1", "2", "4", "5", "0", "-1", "-5", "1", "4", "2"};
        String[] lengths = {"4", "2", "1", "1", "2", "3", "100", "0", "9", "-1"};
        String[] due = {"abcd", "bc", "d", "", "a", "a", "abcd", "", "d", ""};
        for (int i = 0; i < starts.length; i++) {
            worth("\"" + due[i] + "\"", "SUBSTR(\"abcd\", " + starts[i] + ", " + lengths[i] + ")");
            worth("\"" + due[i] + "\"@en", "SUBSTR(\"abcd\"@en, " + starts[i] + ", " + lengths[i] + ")");
        }
        worth("\"\"", "SUBSTR(\"\", 1, 1)");
        worth("-", "SUBSTR(\"abcd\", 1.0, 1)");
        worth("-", "SUBSTR(\"abcd\", 1, 1.0)");
        for (String no : NO_NUMBERS) {
            worth("-", "SUBSTR(\"abcd\", " + no + ", 1)");
            worth("-", "SUBSTR(\"abcd\", 1, " + no + ")");
        }
        for (String no : NO_TEXTS) {
            worth("-", "SUBSTR(" + no + ", 1, 1)");
        }
    }

    private static void substrOfFarPlaces() {
        about("8: SUBSTR with the largest numbers");
        String most = "999999999999999999";
        worth("\"abcd\"", "SUBSTR(\"abcd\", 1, " + most + ")");
        worth("\"\"", "SUBSTR(\"abcd\", " + most + ", " + most + ")");
        worth("\"\"", "SUBSTR(\"abcd\", -" + most + ", " + most + ")");
        worth("\"\"", "SUBSTR(\"abcd\", -" + most + ", -" + most + ")");
        worth("\"\"", "SUBSTR(\"abcd\", " + most + ", -" + most + ")");
        worth("\"a\"", "SUBSTR(\"abcd\", -999999999999999997, " + most + ")");
        worth("\"" + bytes("t", 64) + "\"", "SUBSTR(\"" + bytes("t", 64) + "\", 1, 64)");
        worth("\"u\"", "SUBSTR(\"" + bytes("t", 63) + "u\", 64, 1)");
        worth("\"\"", "SUBSTR(\"" + bytes("t", 64) + "\", 65, 1)");
    }

    private static void concat() {
        about("8: CONCAT: kind 6 if all are, with one tag (and there is one), else 5");
        worth("\"\"", "CONCAT()");
        worth("\"a\"", "CONCAT(\"a\")");
        worth("\"a\"@en", "CONCAT(\"a\"@en)");
        worth("\"ab\"@en", "CONCAT(\"a\"@en, \"b\"@EN)");
        worth("\"ab\"", "CONCAT(\"a\"@en, \"b\"@de)");
        worth("\"ab\"", "CONCAT(\"a\"@en, \"b\")");
        worth("\"ab\"", "CONCAT(\"a\", \"b\"@en)");
        worth("\"abc\"", "CONCAT(\"a\"@en, \"b\"@en, \"c\"@e)");
        worth("\"\"@en", "CONCAT(\"\"@en, \"\"@en)");
        worth("\"12345678\"", "CONCAT(\"1\", \"2\", \"3\", \"4\", \"5\", \"6\", \"7\", \"8\")");
        for (String no : NO_TEXTS) {
            worth("-", "CONCAT(" + no + ")");
            worth("-", "CONCAT(\"a\", " + no + ")");
            worth("-", "CONCAT(" + no + ", \"a\"@en)");
        }
    }

    private static void concatTooLong() {
        about("8: ERROR for more than 64 bytes");
        worth("\"" + bytes("t", 64) + "\"", "CONCAT(\"" + bytes("t", 63) + "\", \"t\")");
        worth("-", "CONCAT(\"" + bytes("t", 64) + "\", \"t\")");
        worth("\"" + bytes("t", 64) + "\"", "CONCAT(\"\", \"" + bytes("t", 64) + "\", \"\")");
        worth("\"" + bytes("t", 64) + "\"@abcdefgh", "CONCAT(\"" + bytes("t", 32) + "\"@abcdefgh, \"" + bytes("t", 32) + "\"@abcdefgh)");
        worth("-", "CONCAT(\"" + bytes("t", 33) + "\"@en, \"" + bytes("t", 32) + "\"@en)");
        worth("-", "CONCAT(\"" + bytes("t", 64) + "\", \"" + bytes("t", 64) + "\", \"t\")");
        worth("\"" + bytes("\\n", 64) + "\"", "CONCAT(\"" + bytes("\\n", 32) + "\", \"" + bytes("\\n", 32) + "\")");
    }

    private static void parts() {
        about("8: STRSTARTS, STRENDS, CONTAINS");
        worth("true", "STRSTARTS(\"abc\", \"ab\")");
        worth("false", "STRSTARTS(\"abc\", \"bc\")");
        worth("true", "STRSTARTS(\"abc\", \"abc\")");
        worth("false", "STRSTARTS(\"abc\", \"abcd\")");
        worth("true", "STRSTARTS(\"abc\", \"\")");
        worth("true", "STRSTARTS(\"\", \"\")");
        worth("true", "STRENDS(\"abc\", \"bc\")");
        worth("false", "STRENDS(\"abc\", \"ab\")");
        worth("true", "STRENDS(\"abc\", \"abc\")");
        worth("false", "STRENDS(\"abc\", \"aabc\")");
        worth("true", "STRENDS(\"abc\", \"\")");
        worth("true", "CONTAINS(\"abc\", \"b\")");
        worth("false", "CONTAINS(\"abc\", \"ac\")");
        worth("true", "CONTAINS(\"abc\", \"\")");
        worth("true", "CONTAINS(\"\", \"\")");
        worth("false", "CONTAINS(\"\", \"a\")");
        worth("true", "CONTAINS(\"aab\", \"ab\")");
        worth("false", "CONTAINS(\"abc\", \"B\")");
    }

    private static void partsWithTags() {
        about("8: the second one of kind 5, or of 6 with the same tag as the first one; ERROR for others");
        String[] functions = {"STRSTARTS", "STRENDS", "CONTAINS", "STRBEFORE", "STRAFTER"};
        for (String function : functions) {
            String found = function.startsWith("STRB") || function.startsWith("STRA") ? "\"\"" : "true";
            String tagged = found.equals("true") ? "true" : "\"\"@en";
            worth(found, function + "(\"a\", \"a\")");
            worth(tagged, function + "(\"a\"@en, \"a\")");
            worth(tagged, function + "(\"a\"@en, \"a\"@EN)");
            worth("-", function + "(\"a\", \"a\"@en)");
            worth("-", function + "(\"a\"@en, \"a\"@de)");
            for (String no : NO_TEXTS) {
                worth("-", function + "(" + no + ", \"a\")");
                worth("-", function + "(\"a\", " + no + ")");
            }
        }
    }

    private static void partsOfNone() {
        about("8: STRBEFORE, STRAFTER: no bytes, kind 5, when it is not there");
        worth("\"\"", "STRBEFORE(\"abc\", \"z\")");
        worth("\"\"", "STRAFTER(\"abc\", \"z\")");
        worth("\"\"", "STRBEFORE(\"abc\"@en, \"z\")");
        worth("\"\"", "STRAFTER(\"abc\"@en, \"z\"@en)");
        worth("\"\"", "STRAFTER(\"abc\"@en, \"abcd\")");
        worth("\"\"@en", "STRBEFORE(\"abc\"@en, \"\")");
        worth("\"abc\"@en", "STRAFTER(\"abc\"@en, \"\"@en)");
    }

    private static void beforeAndAfter() {
        about("8: what is before, behind the first place where it is; of the first one's kind");
        worth("\"a\"", "STRBEFORE(\"abcbc\", \"b\")");
        worth("\"cbc\"", "STRAFTER(\"abcbc\", \"b\")");
        worth("\"\"", "STRBEFORE(\"abc\", \"abc\")");
        worth("\"\"", "STRAFTER(\"abc\", \"abc\")");
        worth("\"ab\"@en", "STRBEFORE(\"abc\"@en, \"c\")");
        worth("\"\"@en", "STRAFTER(\"abc\"@en, \"c\")");
        worth("\"a\"", "STRBEFORE(\"aab\", \"ab\")");
        worth("\"" + bytes("t", 63) + "\"", "STRBEFORE(\"" + bytes("t", 63) + "u\", \"u\")");
        worth("\"" + bytes("t", 63) + "\"", "STRAFTER(\"u" + bytes("t", 63) + "\", \"u\")");
    }

    /** Expressions of ?a, with one that they are worth something for, its worth, and one that is an ERROR. */
    private static final String[][] ROWS = {
        {"?a", "5", "5", "UNDEF"}, {"!?a", "5", "false", ":n"}, {"-(?a)", "5", "-5", ":n"}, {"?a + 1", "5", "6", "\"t\""},
        {"?a - 1", "5", "4", "\"t\""}, {"?a * 2", "5", "10", "999999999999999999"}, {"?a + 1", "5", "6", "999999999999999999"},
        {"1 / ?a", "2", "0.5", "0"}, {"?a / 0.5", "1", "2.0", "999999999999999999"}, {"?a = 5", "5", "true", "\"t\"^^<n>"},
        {"?a != 5", "5", "false", "\"t\"^^<n>"}, {"?a < 6", "5", "true", ":n"}, {"?a >= 6", "5", "false", ":n"},
        {"?a || 0", "1", "true", ":n"}, {"?a && 1", "1", "true", ":n"}, {"?a IN (5)", "5", "true", "UNDEF"},
        {"?a NOT IN (5)", "6", "true", "UNDEF"}, {"IF(?a, 1, 2)", "5", "1", ":n"}, {"COALESCE(?a + 1)", "5", "6", ":n"},
        {"CONCAT(?a, \"u\")", "\"t\"", "\"tu\"", "5"}, {"STRLEN(?a)", "\"t\"", "1", "5"}, {"UCASE(?a)", "\"t\"@en", "\"T\"@en", "5"},
        {"LCASE(?a)", "\"T\"", "\"t\"", "5"}, {"STR(?a)", ":n", "\"n\"", "_:b"}, {"LANG(?a)", "\"t\"@en", "\"en\"", ":n"},
        {"DATATYPE(?a)", "5", "<whole>", ":n"}, {"TONAME(?a)", "\"n\"", "<n>", "\"\""}, {"ISNAME(?a)", ":n", "true", "UNDEF"},
        {"ISBLANK(?a)", "_:b", "true", "UNDEF"}, {"ISLITERAL(?a)", "5", "true", "UNDEF"}, {"ISNUMERIC(?a)", "5", "true", "UNDEF"},
        {"ABS(?a)", "5", "5", ":n"}, {"CEIL(?a)", "1.5", "2.0", ":n"}, {"FLOOR(?a)", "1.5", "1.0", ":n"}, {"ROUND(?a)", "1.5", "2.0", ":n"},
        {"STRSTARTS(?a, \"t\")", "\"t\"", "true", "5"}, {"STRENDS(?a, \"t\")", "\"t\"", "true", "5"},
        {"CONTAINS(?a, \"t\")", "\"t\"", "true", "5"}, {"STRBEFORE(?a, \"u\")", "\"tu\"@en", "\"t\"@en", "5"},
        {"STRAFTER(?a, \"u\")", "\"ut\"@en", "\"t\"@en", "5"}, {"SAMETERM(?a, 5)", "5", "true", "UNDEF"},
        {"SUBSTR(\"abc\", ?a, 1)", "2", "\"b\"", "2.0"}, {"SUBSTR(?a, 2, 1)", "\"abc\"@en", "\"b\"@en", "5"}};

    private static void eachRowAnew() {
        about("8: what an expression is worth for a row does not rest on other rows");
        for (String[] row : ROWS) {
            fresh();
            String both = row[2] + " - " + row[2] + " -";
            gives(both, "SELECT ?b ?d ?f ?h WHERE { " + bind(row[0], "?a", "?b", row[1]) + bind(row[0], "?c", "?d", row[3])
                + bind(row[0], "?e", "?f", row[1]) + bind(row[0], "?g", "?h", row[3]) + "}");
            gives("- / " + row[2] + " / " + row[2], "SELECT ?b WHERE { VALUES (?a) { (" + row[1] + ")(" + row[3] + ")(" + row[1] + ") } BIND ("
                + row[0] + " AS ?b) }");
            gives("- / - / " + row[2], "SELECT ?b WHERE { VALUES (?a) { (" + row[3] + ")(" + row[1] + ")(" + row[3] + ") } BIND ("
                + row[0] + " AS ?b) }");
        }
        fresh();
        gives("- / 1 / 1", "SELECT ?b WHERE { VALUES ?a { 5 UNDEF 6 } BIND (IF(BOUND(?a), 1, ?a) AS ?b) }");
        gives("- 1 / 4 1 / 5 1", "SELECT ?b (COUNT(*) AS ?n) WHERE { VALUES ?a { 4 :n 3 } BIND (?a + 1 AS ?b) } GROUP BY ?b");
        gives("- / \"1 2\"", "SELECT (GROUPCONCAT(?b) AS ?g) WHERE { VALUES (?a ?b) { (1 1) (1 2) (2 UNDEF) } } GROUP BY ?a");
        gives("- / 3", "SELECT (SUM(?b) AS ?g) WHERE { VALUES (?a ?b) { (1 1) (1 2) (2 :n) } } GROUP BY ?a");
        gives("- / 1", "SELECT (MAX(?b) AS ?g) WHERE { VALUES (?a ?b) { (1 1) (2 UNDEF) } } GROUP BY ?a");
    }

    private static String bind(String expression, String from, String to, String given) {
        return "VALUES (" + from + ") { (" + given + ") } BIND (" + expression.replace("?a", from) + " AS " + to + ") ";
    }

    private static void numbersOneAfterTheOther() {
        about("8: numbers do not rest on those before");
        String most = "999999999999999999";
        gives("- 2 0.5 - 3.0 1.0", "SELECT (" + most + " * " + most + " AS ?a) (1 + 1 AS ?b) (1 / 2 AS ?c) (" + most + ".0 * " + most + ".0 AS ?d) "
            + "(1.5 * 2 AS ?e) (SUM(0.5 + 0.5) AS ?f) WHERE { }");
        gives("1 - 1", "SELECT (ABS(0 - 1) AS ?a) (" + most + " / 0.000000001 AS ?b) (3 - 2 AS ?c) WHERE { }");
    }

    private static void errorsIn() {
        about("8: where one that is taken is ERROR, so is the result, if nothing else is said");
        String[] ones = {"UCASE", "LCASE", "STRLEN", "STR", "LANG", "DATATYPE", "TONAME", "ISNAME", "ABS", "CEIL"};
        for (String one : ones) {
            worth("-", one + "(1 / 0)");
        }
        for (String text : TEXTS) {
            worth("-", "STRSTARTS(" + text + ", ?x)");
            worth("-", "SUBSTR(" + text + ", ?x, 1)");
        }
        worth("-", "(1 / 0) + 1");
        worth("-", "1 < 1 / 0");
        worth("-", "-(1 / 0)");
        worth("-", "CONCAT(\"a\", STR(_:b))");
        worth("true", "COALESCE(STR(_:b) = \"b\", true)");
    }
}
