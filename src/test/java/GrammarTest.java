import java.util.List;

/** LAND and EXPR token by token: whatever can't stand at a place is its FAULT, and what can is none. */
public final class GrammarTest {
    private static final String TWO = "person 1 2 3 4 5;person 1 2 3 4 5;";
    private static final List<String> LINES = List.of("person", "child", "adopted", "wed", "will", "field", "front", "law");
    private static final List<String> VALUES = List.of("child", "adopted", "spouse", "parent", "sibling", "number", "here");
    private static final List<String> WORDS = List.of("person", "child", "adopted", "wed", "will", "field", "front", "law",
            "or", "and", "not", "spouse", "parent", "sibling", "number", "here", "foo", "a", "z", "exp");
    private static final List<String> SIGNS = List.of(";", "(", ")", "+", "-", "*", "/", "<", "=");
    private static final List<String> NO_TOKENS = List.of("!", ">", "A", "Z", ".", ",", ":", "\t", "\u0000", "\u00ff", "\u00e9");

    public static void main(String[] args) {
        firstTokens();
        everyToken();
        tooSoon();
        almostWords();
        whereAPartMust();
        behindAPart();
        nested();
        nots();
        Due.end("GrammarTest");
    }

    private static void firstTokens() {
        for (String ahead : new String[] {"", TWO, "front 4;"}) {
            for (String word : WORDS) {
                if (!LINES.contains(word)) {
                    Due.faultAt(ahead + "#" + word, 1);
                }
            }
            for (String sign : SIGNS) {
                Due.faultAt(ahead + "#" + sign, 1);
            }
            for (String none : NO_TOKENS) {
                Due.faultAt(ahead + "#" + none, 1);
            }
            Due.faultAt(ahead + "#7", 1);
            Due.fault(ahead, 0, -1);
        }
        Due.faultAt(TWO + "#;", 1);
    }

    /** Every line with one of its tokens, but the first, put in place of by all that can't stand there. */
    private static void everyToken() {
        String[] lines = {"person 1 2 3 4 5 ;", "child 0 1 1 2 3 4 5 ;", "adopted 0 1 2 3 4 5 ;", "wed 0 1 ;",
            "will 0 1 5 ;", "field 4 5 6 ;", "front 7 ;", "law 7 ;"};
        for (String line : lines) {
            Due.fault(TWO + line, 0, -1);
            String[] tokens = line.split(" ");
            boolean law = tokens[0].equals("law");
            for (int i = 1; i < tokens.length; i++) {
                StringBuilder ahead = new StringBuilder(TWO);
                for (int j = 0; j < i; j++) {
                    ahead.append(tokens[j]).append(' ');
                }
                boolean number = i < tokens.length - 1;
                wrongTokens(ahead.toString(), number, law);
            }
        }
    }

    private static void wrongTokens(String ahead, boolean number, boolean law) {
        for (String none : NO_TOKENS) {
            Due.faultAt(ahead + "#" + none, 1);
        }
        Due.faultAt(ahead + "#", 1);
        if (law) {
            return;
        }
        for (String word : WORDS) {
            Due.faultAt(ahead + "#" + word, 1);
        }
        for (String sign : SIGNS) {
            if (number || !sign.equals(";")) {
                Due.faultAt(ahead + "#" + sign, 1);
            }
        }
        if (!number) {
            Due.faultAt(ahead + "#0", 1);
            Due.faultAt(ahead + "#12345", 1);
        }
    }

    /** Cut off behind each token, with and without blanks: the fault stands at the text's length. */
    private static void tooSoon() {
        String[] lines = {"person 1 2 3 4 5 ", "child 0 1 1 2 3 4 5 ", "adopted 0 1 2 3 4 5 ", "wed 0 1 ", "will 0 1 5 ",
            "field 4 5 6 ", "front 7 ", "law not ( 7 + child ) "};
        for (String line : lines) {
            for (int to = line.indexOf(' '); to >= 0; to = line.indexOf(' ', to + 1)) {
                Due.faultAt(TWO + line.substring(0, to) + "#", 1);
                Due.faultAt(TWO + line.substring(0, to) + " #", 1);
                Due.faultAt(TWO + line.substring(0, to) + "\n  \n#", 1);
            }
        }
    }

    /** Each word with one letter changed, one less, one more: it is another word. */
    private static void almostWords() {
        for (String word : LINES) {
            for (String wrong : spoilt(word)) {
                Due.faultAt("#" + wrong + " 1 1 1 1 1 1 1;", 1);
            }
        }
        for (String word : VALUES) {
            Due.fault("law " + word + ";", 0, -1);
            for (String wrong : spoilt(word)) {
                Due.faultAt("law #" + wrong + ";", 3);
            }
        }
        for (String word : new String[] {"or", "and"}) {
            Due.fault("law 1 " + word + " 1;", 0, -1);
            for (String wrong : spoilt(word)) {
                Due.faultAt("law 1 #" + wrong + " 1;", 1);
            }
        }
        Due.fault("law not 1;", 0, -1);
        for (String wrong : spoilt("not")) {
            Due.faultAt("law #" + wrong + " 1;", 3);
        }
    }

    private static String[] spoilt(String word) {
        String[] all = new String[word.length() + 2];
        for (int i = 0; i < word.length(); i++) {
            all[i] = word.substring(0, i) + "x" + word.substring(i + 1);
        }
        all[word.length()] = word.substring(0, word.length() - 1);
        all[word.length() + 1] = word + "x";
        return all;
    }

    private static void whereAPartMust() {
        String[] aheads = {"law ", "law not ", "law not not ", "law (", "law 1 or ", "law 1 and ", "law (1) and ",
            "law 1 or not ", "law 1 and (", "law 1 + (", "law 1 +", "law 1 -", "law 1 *", "law 1 /", "law 1 <", "law 1 =",
            "law not 1 <", "law (1 *", "law (child) /", "law 1 or 1 <"};
        for (String ahead : aheads) {
            boolean notToo = !"+-*/<=".contains(ahead.substring(ahead.length() - 1));
            String behind = (ahead.contains("(") && !ahead.contains(")") ? ")" : "") + ";";
            Due.fault(ahead + "1" + behind, 0, -1);
            Due.fault(ahead + "(1)" + behind, 0, -1);
            for (String word : WORDS) {
                if (VALUES.contains(word)) {
                    Due.fault(ahead + word + behind, 0, -1);
                } else if (word.equals("not") && notToo) {
                    Due.fault(ahead + "not 1" + behind, 0, -1);
                } else {
                    Due.faultAt(ahead + "#" + word + behind, 3);
                }
            }
            for (String sign : SIGNS) {
                if (!sign.equals("(")) {
                    Due.faultAt(ahead + "#" + sign + " 1" + behind, 1);
                }
            }
            for (String none : NO_TOKENS) {
                Due.faultAt(ahead + "#" + none, 1);
            }
            Due.faultAt(ahead + "#10000", 2);
            Due.faultAt(ahead + "#", 1);
        }
    }

    private static void behindAPart() {
        String[] aheads = {"law 1", "law not 1", "law child", "law (1)", "law (1", "law (not 1", "law ((1)", "law 1 + 1",
            "law 1 or 1", "law 1 < 1", "law (1 = 1", "law not 1 < 1", "law 1 * (1) = 1", "law 1 < 1 or 1", "law (1 < 1) and 1"};
        for (String ahead : aheads) {
            int open = ahead.replaceAll("[^(]", "").length() - ahead.replaceAll("[^)]", "").length();
            String behind = ")".repeat(open) + ";";
            Due.fault(ahead + behind, 0, -1);
            String test = ahead.substring(Math.max(ahead.lastIndexOf("or"), ahead.lastIndexOf("and")) + 1);
            boolean tested = (test.contains("<") || test.contains("=")) && !test.contains(")") || test.contains("(1) =");
            for (String more : new String[] {"+", "-", "*", "/", " or ", " and "}) {
                Due.fault(ahead + more + "1" + behind, 0, -1);
            }
            for (String more : new String[] {"<", "="}) {
                if (tested) {
                    Due.faultAt(ahead + "#" + more + "1" + behind, 1);
                } else {
                    Due.fault(ahead + more + "1" + behind, 0, -1);
                }
            }
            for (String word : WORDS) {
                if (!word.equals("or") && !word.equals("and")) {
                    Due.faultAt(ahead + " #" + word + behind, 1);
                }
            }
            for (String none : NO_TOKENS) {
                Due.faultAt(ahead + "#" + none, 1);
            }
            Due.faultAt(ahead + " #1" + behind, 1);
            Due.faultAt(ahead + " #12345" + behind, 1);
            Due.faultAt(ahead + "#(" + behind, 1);
            Due.faultAt(ahead + "#", 1);
            Due.faultAt(ahead + (open > 0 ? "#;" : "#)"), 1);
        }
    }

    /** An EXPR within five others can stand, one within six can't, whatever it begins with. */
    private static void nested() {
        for (String sixth : new String[] {"(((((", "1+(2*(not(1 and(1<(", "not(not(not(not(not("}) {
            String close = ")".repeat(5) + ";";
            Due.fault("law " + sixth + "1" + close, 0, -1);
            Due.fault("law " + sixth + "1) + (2" + close, 0, -1);
            Due.fault("law " + sixth + "not 1 < 2 + 3 * 4 or 1 and 1" + close, 0, -1);
            for (String word : WORDS) {
                Due.faultAt("law " + sixth + "(#" + word, 2);
                Due.faultAt("law " + sixth + "not(#" + word, 2);
            }
            Due.faultAt("law " + sixth + "(#0", 2);
            Due.faultAt("law " + sixth + "(#99999", 2);
            Due.faultAt("law " + sixth + "(#(", 2);
            Due.faultAt("law " + sixth + "1 * (#1)" + close, 2);
            Due.faultAt("law " + sixth + "1) + ((#1)" + close, 2);
            for (String sign : SIGNS) {
                if (!sign.equals("(")) {
                    Due.faultAt("law " + sixth + "(#" + sign, 1);
                }
            }
            for (String none : NO_TOKENS) {
                Due.faultAt("law " + sixth + "(#" + none, 1);
            }
            Due.faultAt("law " + sixth + "(#", 1);
        }
        Due.fault("law " + "(1)+".repeat(40) + "(((((1)))));", 0, -1);
        Due.fault("law (((((1)))))+(((((1)))))*(((((1)))));", 0, -1);
    }

    private static void nots() {
        String six = "not not not not not not ";
        String[] aheads = {"law ", "law (", "law 1 or ", "law 1 and ", "law " + six + "(", "law " + six + "1 and "};
        for (String ahead : aheads) {
            String behind = (ahead.contains("(") ? ")" : "") + ";";
            Due.fault(ahead + six + "1" + behind, 0, -1);
            Due.fault(ahead + six + "1 < 2 or " + six + "3" + behind, 0, -1);
            Due.faultAt(ahead + six + "#not 1" + behind, 2);
            Due.faultAt(ahead + six + "#not" + behind, 2);
            Due.faultAt(ahead + six + "#foo" + behind, 3);
            Due.faultAt(ahead + six + "#or" + behind, 3);
            Due.faultAt(ahead + six + "#;", 1);
        }
        SkyHeirs x = Due.of("person 0 9 0 0 0;person 0 0 0 0 0;law " + six + "5;");
        Due.is("six of them", x.heir(0, 1, 0), 9);
        SkyHeirs y = Due.of("person 0 9 0 0 0;person 0 0 0 0 0;law " + six.substring(4) + "5;");
        Due.is("five of them", y.heir(0, 1, 0), 0);
    }
}
