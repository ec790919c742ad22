import java.util.ArrayList;
import java.util.List;
import java.util.Random;

/** Texts of lands, drawn at random, and ways to spoil them. */
final class RandomText {
    private static final String[] WORDS = {"person", "child", "adopted", "wed", "will", "field", "front", "law", "or", "and",
        "not", "spouse", "parent", "sibling", "number", "here", "foo", "(", ")", "+", "-", "*", "/", "<", "=", ";", "0", "1",
        "5", "12", "10000", "00000", "999", "1000", "9999", "99", "100", "3997", "!", "\u00e9", "\t", "A", "not not",
        "not not not not not not", "((((", "(((((", "((((((", "))))"};
    private final Random random;

    RandomText(Random random) {
        this.random = random;
    }

    private int below(int n) {
        return random.nextInt(n);
    }

    private String sky() {
        StringBuilder sky = new StringBuilder();
        int most = new int[] {2, 12, 60, 1000}[below(4)];
        for (int part = 0; part < 4; part++) {
            sky.append(' ').append(below(3) == 0 ? 0 : below(most));
        }
        return sky.toString();
    }

    String text() {
        return below(8) == 0 ? full() : any();
    }

    /** Twelve people, six couples, twelve wills, six fields: all that there may be of each. */
    private String full() {
        StringBuilder text = new StringBuilder();
        for (int p = 0; p < 12; p++) {
            int one = p > 1 ? below(p) : 0;
            String rest = below(3) + sky() + ";";
            switch (p > 1 ? below(3) : 0) {
                case 0 -> text.append("person ").append(rest);
                case 1 -> text.append("adopted ").append(one).append(' ').append(rest);
                default -> text.append("child ").append(one).append(' ').append(one == 0 ? 1 : 0).append(' ').append(rest);
            }
        }
        int shift = below(11);
        for (int p = 0; p < 12; p++) {
            text.append("will ").append(p).append(' ').append((p + 1 + shift) % 12).append(' ').append(1 + below(9)).append(';');
        }
        for (int p = 0; p < 6; p++) {
            text.append("wed ").append(p).append(' ').append(6 + (p + shift) % 6).append(';');
            text.append("field ").append(p).append(' ').append(below(40)).append(' ').append(below(40)).append(';');
        }
        String law = "law " + expr(2) + ";";
        return text.length() + law.length() > 700 ? text.toString() : text.append(law).toString();
    }

    private String any() {
        List<String> lines = new ArrayList<>();
        int people = new int[] {0, 1, 2, 3, 4, 5, 5, 6, 6, 7, 7, 8, 12}[below(13)];
        int places = below(2) == 0 ? 3 : 10;
        for (int p = 0; p < people; p++) {
            String rest = below(places) + sky() + ";";
            if (p > 1 && below(2) == 0) {
                int one = below(p);
                lines.add("child " + one + " " + (one + 1 + below(p - 1)) % p + " " + rest);
            } else if (p > 0 && below(3) == 0) {
                lines.add("adopted " + below(p) + " " + rest);
            } else {
                lines.add("person " + rest);
            }
        }
        others(lines, people, places);
        StringBuilder all = new StringBuilder();
        for (String line : lines) {
            if (all.length() + line.length() <= 700) {
                all.append(line);
            }
        }
        return all.toString();
    }

    private void others(List<String> lines, int people, int places) {
        List<Integer> free = new ArrayList<>();
        for (int p = 0; p < people; p++) {
            free.add(p);
        }
        for (int i = below(4); i > 0 && free.size() > 1; i--) {
            lines.add("wed " + free.remove(below(free.size())) + " " + free.remove(below(free.size())) + ";");
        }
        boolean[] left = new boolean[144];
        for (int i = people < 2 ? 0 : below(7); i > 0; i--) {
            int owner = below(people);
            int heir = (owner + 1 + below(people - 1)) % people;
            if (!left[owner * 12 + heir]) {
                left[owner * 12 + heir] = true;
                lines.add("will " + owner + " " + heir + " " + (1 + below(below(2) == 0 ? 4 : 99)) + ";");
            }
        }
        int shift = below(places);
        for (int i = below(6); i > 0; i--) {
            if (i <= places) {
                int most = new int[] {3, 30, 100, 10000}[below(4)];
                lines.add("field " + (i + shift) % places + " " + below(most) + " " + below(most) + ";");
            }
        }
        if (below(4) != 0) {
            int front = new int[] {10, 60, 600, 3996}[below(4)];
            lines.add(below(lines.size() + 1), "front " + (1 + below(front)) + ";");
        }
        if (below(4) != 0) {
            lines.add(below(lines.size() + 1), "law " + expr(3) + ";");
        }
    }

    String expr(int deep) {
        int kind = below(deep > 0 ? 12 : 3);
        switch (kind) {
            case 0: return Integer.toString(below(below(3) == 0 ? 10000 : 6));
            case 1:
            case 2: return WORDS[new int[] {1, 2, 11, 12, 13, 14, 15}[below(7)]];
            case 3: return "(" + expr(deep - 1) + ")";
            case 4: return "not " + (below(3) == 0 ? "not " : "") + "(" + expr(deep - 1) + ")";
            case 5: return expr(deep - 1) + " or " + expr(deep - 1);
            case 6: return expr(deep - 1) + " and " + expr(deep - 1);
            case 7: return "(" + expr(deep - 1) + ")" + (below(2) == 0 ? "<" : "=") + "(" + expr(deep - 1) + ")";
            default: return expr(0) + "+-*/".charAt(below(4)) + "(" + expr(deep - 1) + ")" + "+-*/".charAt(below(4)) + expr(0);
        }
    }

    /** One thing is put in, taken out, put in place of another one, or the end is cut off. */
    String spoilt(String text) {
        int at = below(text.length() + 1);
        int to = Math.min(text.length(), at + 1 + below(4));
        String word = WORDS[below(WORDS.length)];
        switch (below(6)) {
            case 0: return text.substring(0, at);
            case 1: return text.substring(0, at) + text.substring(to);
            case 2: return text.substring(0, at) + " " + word + " " + text.substring(at);
            case 3: return text.substring(0, at) + word + text.substring(to);
            case 4: return text + text.substring(at);
            default: return inPlaceOfToken(text, word);
        }
    }

    private String inPlaceOfToken(String text, String word) {
        String[] tokens = text.split("(?<=[a-z])(?![a-z])|(?<=[0-9])(?![0-9])|(?<=[;()+*/<= -])");
        tokens[below(tokens.length)] = " " + word + " ";
        return String.join("", tokens);
    }
}
