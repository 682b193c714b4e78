import java.util.ArrayDeque;
import java.util.ArrayList;
import java.util.Deque;
import java.util.HashSet;
import java.util.List;
import java.util.Map;
import java.util.Set;
import java.util.regex.Matcher;
import java.util.regex.Pattern;

/** The first fault of a text, found without recursion: by what the token ahead lets follow. */
final class FaultFinder {
    private static final Pattern TOKEN = Pattern.compile("[a-z]+|[0-9]+|[;()+\\-*/<=]|[^ \n]", Pattern.DOTALL);
    private static final Set<String> VALUES =
        Set.of("sleep", "fish", "voice", "room", "verse", "night", "met", "last");
    private static final Map<String, int[][]> NUMBERS = Map.of(
        "room", new int[][] {{0, 99}, {0, 8}, {0, 8}},
        "bass", new int[][] {{0, 99}, {0, 9}, {0, 9999}},
        "tenor", new int[][] {{0, 99}, {0, 9}, {0, 9999}},
        "alto", new int[][] {{0, 99}, {0, 9}, {0, 9999}},
        "treble", new int[][] {{0, 99}, {0, 9}, {0, 9999}},
        "tires", new int[][] {{1, 50}},
        "rests", new int[][] {{0, 50}});

    private final List<String> tokens = new ArrayList<>();
    private final List<Integer> places = new ArrayList<>();
    private int at = 0;
    private int rooms = 0;
    private int monks = 0;
    int fault = 0;
    int place = -1;

    FaultFinder(String text) {
        Matcher matcher = TOKEN.matcher(text);
        while (matcher.find()) {
            tokens.add(matcher.group());
            places.add(matcher.start());
        }
        tokens.add("");
        places.add(text.length());
        find();
    }

    private String token() {
        return tokens.get(at);
    }

    private boolean is(String pattern) {
        return token().matches(pattern);
    }

    private void stop(int kind) {
        fault = kind;
        place = places.get(at);
    }

    private void find() {
        Set<String> once = new HashSet<>();
        while (fault == 0 && !token().isEmpty()) {
            String word = token();
            boolean monk = word.matches("bass|tenor|alto|treble");
            if (!NUMBERS.containsKey(word) && !word.equals("dreams")) {
                stop(1);
            } else if (word.equals("room") && rooms == 9 || monk && monks == 8) {
                stop(2);
            } else if (word.matches("tires|rests|dreams") && !once.add(word)) {
                stop(5);
            } else {
                at++;
                if (word.equals("dreams")) {
                    expr();
                } else {
                    numbers(NUMBERS.get(word), monk);
                }
                rooms += word.equals("room") ? 1 : 0;
                monks += monk ? 1 : 0;
            }
        }
    }

    private void numbers(int[][] ranges, boolean monk) {
        for (int i = 0; i < ranges.length && fault == 0; i++) {
            if (!is("[0-9]+")) {
                stop(1);
            } else if (token().length() > 4 || Integer.parseInt(token()) < ranges[i][0]
                    || Integer.parseInt(token()) > ranges[i][1]) {
                stop(2);
            } else if (monk && i == 2 && Integer.parseInt(token()) >= rooms) {
                stop(3);
            } else {
                at++;
            }
        }
        if (fault == 0) {
            if (is(";")) {
                at++;
            } else {
                stop(1);
            }
        }
    }

    /** Of each open expression: whether its test has had its sign already. */
    private final Deque<Boolean> open = new ArrayDeque<>();
    private boolean partDue;
    private boolean notMayStand;
    private boolean firstOfExpr;
    private int nots;

    private void expr() {
        open.clear();
        begin();
        while (fault == 0) {
            if (partDue) {
                part();
            } else if (is(";") && open.size() == 1) {
                at++;
                return;
            } else {
                behindPart();
            }
        }
    }

    private void begin() {
        open.push(false);
        partDue = true;
        notMayStand = true;
        firstOfExpr = true;
        nots = 0;
    }

    private void part() {
        boolean word = is("[a-z]+");
        boolean number = is("[0-9]+");
        boolean tooDeep = firstOfExpr && open.size() > 6;
        firstOfExpr = false;
        if (!word && !number && !is("[(]")) {
            stop(1);
        } else if (tooDeep || number && token().length() > 4) {
            stop(2);
        } else if (token().equals("not") && notMayStand) {
            nots++;
            if (nots == 7) {
                stop(2);
            }
            at++;
        } else if (word && !VALUES.contains(token())) {
            stop(3);
        } else if (is("[(]")) {
            at++;
            begin();
        } else {
            at++;
            partDue = false;
        }
    }

    private void behindPart() {
        boolean joins = is("and|or");
        boolean tests = is("[<=]") && !open.peek();
        if (is("[)]") && open.size() > 1) {
            open.pop();
        } else if (joins || tests || is("[-+*/]")) {
            partDue = true;
            notMayStand = joins;
            nots = 0;
            if (joins || tests) {
                open.pop();
                open.push(tests);
            }
        } else {
            stop(1);
            return;
        }
        at++;
    }
}
