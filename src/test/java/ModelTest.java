import java.lang.reflect.Method;
import java.util.ArrayList;
import java.util.Arrays;
import java.util.HashMap;
import java.util.List;
import java.util.Map;

/** Long runs of calls, drawn by fixed lots, each answered by the class and by the model of the document alike. */
public final class ModelTest {
    private static final int RUNS = 1500, CALLS = 300;
    /** What an object answers to later calls is free. */
    private static final int MOST_CALLS = 512;

    /** The names and the bounds of what each call is mostly given; now and then it is given something wild. */
    private static final String[] FACE = {
        "count 0..5", "brings 0..1 0..99", "brings 0..0 0..999", "feed 1..5 0..255 0..255 0..255 0..255 0..255",
        "text", "force 0..5", "asks 0..2 -1..5 0..99 0..60 0..6", "courtier 0..59 0..99", "courtier 0..59 0..3",
        "put 0..5 0..0 0..99", "put 0..5 1..1 0..999", "put 0..5 0..0 0..3", "put 0..5 1..1 0..40", "told 0..5 0..8",
        "told 0..5 4..8", "table 0..4", "sup", "run 0..5 0..20 0..2", "cook 0..1", "raise 0..1", "exile 0..1",
        "seat 0..5 0..1", "order 0..1", "mean 0..1", "judge 0..3", "kinds 0..3 0..5 0..1", "ranks 0..3 0..5 0..1",
        "heats 0..3 0..1", "laws 0..3", "film 0..3", "drawn 0..99999 0..1", "odds 0..99999 1..40 -50..400 0..1",
        "image", "back", "sheet 0..3 -1..2 0..7", "sheet 0..3 0..2 0..40", "cell 0..3 0..6 -1..99", "film 0..3",
        "cell 0..3 0..11 0..59", "copy 0..3 0..4 0..3 0..4 0..4", "courtBy 0..3 0..2 0..4 0..6", "taken 0..11 0..6"
    };
    /** These cost most: they are called less often. */
    private static final List<String> DEAR = List.of("order", "odds", "run", "ranks", "seat", "heats", "cook", "back");

    private static long state = 1;

    private static int lot(int below) {
        state = state * 6364136223846793005L + 1442695040888963407L;
        return (int) ((state >>> 33) % below);
    }

    private static int argument(String bounds) {
        String[] two = bounds.split("\\.\\.");
        int least = Integer.parseInt(two[0]);
        int most = Integer.parseInt(two[1]);
        switch (lot(40)) {
            case 0: return least - 1;
            case 1: return most + 1;
            case 2: return new int[] {Integer.MIN_VALUE, Integer.MAX_VALUE, -1, 41, 1000}[lot(5)];
            case 3: return most;
            case 4: return least;
            default: return least + lot(most - least + 1);
        }
    }

    // ---- texts by lots

    private static String expression(int deep) {
        switch (lot(deep > 0 ? 14 : 4)) {
            case 0: case 1: return String.valueOf(lot(lot(3) == 0 ? 10000 : 30));
            case 2: case 3: return new String[] {"heat", "minute", "down", "rank", "mood", "more"}[lot(6)];
            case 4: return "-" + expression(deep - 1);
            case 5: return "(" + expression(deep - 1) + ")";
            case 6: return "not " + expression(deep - 1);
            case 7: return expression(deep - 1) + " or " + expression(deep - 1);
            case 8: return expression(deep - 1) + " and " + expression(deep - 1);
            case 9: return expression(deep - 1) + "<" + expression(deep - 1);
            case 10: return expression(deep - 1) + " = " + expression(deep - 1);
            case 11: return expression(deep - 1) + "*" + expression(deep - 1);
            case 12: return expression(deep - 1) + "+" + expression(deep - 1);
            default: return expression(deep - 1) + " - " + expression(deep - 1);
        }
    }

    /** Mild texts, by which suppers go on for a while. */
    private static String mild(int part) {
        String[][] all = {
            {"1", "2+(heat<50)", "heat*0+down", "3-minute*(minute<3)", "heat-heat+1", "(down=2)*5"},
            {"7", "rank*(rank<9)", "3+down*4", "mood*(mood<20)", "more+2", "20-minute", "0", "heat<50 or 9*more",
                "13", "20", "8+rank"},
            {"50", "mood*(mood<99)", "rank", "heat-10", "more*11", "minute+30", "99", "down*15+20"}
        };
        return all[part][lot(all[part].length)];
    }

    private static String text() {
        StringBuilder s = new StringBuilder();
        String[] keys = {"cools", "waits", "likes"};
        boolean isMild = lot(2) == 0;
        for (int part = 0; part < 3; part++) {
            s.append(keys[part]).append(lot(5) == 0 ? "\n " : " ").append(isMild ? mild(part) : expression(lot(4)))
                    .append(lot(2) == 0 ? " ;" : ";");
        }
        if (lot(4) == 0) {
            String broken = "();+-*<=019az #A\n\u00e9";
            int at = lot(s.length());
            switch (lot(4)) {
                case 0: s.setCharAt(at, broken.charAt(lot(broken.length()))); break;
                case 1: s.insert(at, broken.charAt(lot(broken.length()))); break;
                case 2: s.deleteCharAt(at); break;
                default: s.setLength(at); break;
            }
        }
        return s.toString();
    }

    // ---- both sides

    private final SoupByRank soup = new SoupByRank();
    private final SoupModel model = new SoupModel();
    private final List<String> calls = new ArrayList<>();

    private static final Map<String, Method> OF_SOUP = methods(SoupByRank.class);
    private static final Map<String, Method> OF_MODEL = methods(SoupModel.class);

    private static Map<String, Method> methods(Class<?> of) {
        Map<String, Method> all = new HashMap<>();
        for (Method m : of.getDeclaredMethods()) {
            if (java.lang.reflect.Modifier.isPublic(m.getModifiers())) {
                m.setAccessible(true);
                all.put(m.getName(), m);
            }
        }
        return all;
    }

    private boolean agree(String name, int... given) throws Exception {
        if (calls.size() >= MOST_CALLS) {
            return true;
        }
        Object[] arguments = Arrays.stream(given).boxed().toArray();
        calls.add(name + Arrays.toString(given));
        Object got = OF_SOUP.get(name).invoke(soup, arguments);
        Object want = OF_MODEL.get(name).invoke(model, arguments);
        if (got.equals(want)) {
            return true;
        }
        System.out.println("after " + calls + " the class answered " + got + ", the model " + want);
        return false;
    }

    private boolean agreeOnText(String whole) throws Exception {
        boolean agreed = true;
        int fed = 0;
        while (fed < whole.length() && agreed) {
            int n = Math.min(1 + lot(5), whole.length() - fed);
            int[] given = new int[6];
            given[0] = n;
            for (int i = 0; i < n; i++) {
                given[i + 1] = whole.charAt(fed + i);
            }
            agreed = agree("feed", given);
            fed += n;
        }
        return agreed && agree("text");
    }

    private boolean agreeOnCall() throws Exception {
        if (lot(12) == 0) {
            // where no text has room any more, only now and then
            return (model.count(3) == 6 && lot(20) != 0 || agreeOnText(text())) && agree("force", lot(6));
        }
        String[] words = FACE[lot(FACE.length)].split(" ");
        if (DEAR.contains(words[0]) && lot(3) != 0 || words[0].equals("order") && lot(4) != 0) {
            return true;
        }
        int[] given = new int[words.length - 1];
        for (int i = 0; i < given.length; i++) {
            given[i] = argument(words[i + 1]);
        }
        return agree(words[0], given);
    }

    private static boolean isFaceAlike() {
        boolean alike = OF_SOUP.keySet().equals(OF_MODEL.keySet()) && OF_SOUP.size() == 34 - 1;
        for (String name : OF_SOUP.keySet()) {
            Method model = OF_MODEL.get(name);
            alike = alike && model != null && model.getReturnType() == OF_SOUP.get(name).getReturnType()
                    && Arrays.equals(model.getParameterTypes(), OF_SOUP.get(name).getParameterTypes());
        }
        return alike;
    }

    public static void main(String[] args) throws Exception {
        if (!isFaceAlike()) {
            System.out.println("the face is not the document's: " + OF_SOUP.keySet());
            System.exit(1);
        }
        for (int run = 0; run < RUNS; run++) {
            state = run;
            ModelTest test = new ModelTest();
            boolean agreed = true;
            for (int i = lot(7); i > 0 && agreed; i--) {
                agreed = test.agree("courtier", lot(60), lot(lot(2) == 0 ? 100 : 4));
            }
            for (int i = 0; i < CALLS && agreed; i++) {
                agreed = test.agreeOnCall();
            }
            if (!agreed) {
                System.exit(1);
            }
        }
        System.out.println("ModelTest: " + RUNS + " runs answered as the model does");
    }
}
