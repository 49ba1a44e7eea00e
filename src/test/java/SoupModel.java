import java.util.ArrayList;
import java.util.Arrays;
import java.util.List;
import java.util.Map;

/**
 * The document told a second time, as plainly as its words, with lists, trees and the machine's own exceptions: the
 * class is held against it. It shares no code and, where that was possible, no way of reckoning with the class.
 */
final class SoupModel {
    private static final long NO = -4611686018427387904L;

    // ---- kinds

    private static class Courtier {
        final int number, more;
        int rank, mood = 500;

        Courtier(int number, int more, int rank) {
            this.number = number;
            this.more = more;
            this.rank = rank;
        }

        int waiting(int says, int hot, int supper) {
            return says;
        }

        int likes(int says) {
            return says;
        }

        int minds(int off) {
            return off < 0 ? -off : off;
        }

        static Courtier of(int kind, int number, int more, int rank) {
            switch (kind) {
                case 0: return new Courtier(number, more, rank);
                case 1: return new Earl(number, more, rank);
                case 2: return new Chaplain(number, more, rank);
                case 3: return new King(number, more, rank);
                case 4: return new Viscount(number, more, rank);
                default: return new Lover(number, more, rank);
            }
        }

        int kind() {
            return List.of("Courtier", "Earl", "Chaplain", "King", "Viscount", "Lover")
                    .indexOf(getClass().getSimpleName());
        }

        Courtier as(int kind, int otherMore) {
            Courtier c = of(kind, number, otherMore, rank);
            c.mood = mood;
            return c;
        }

        Courtier twin() {
            return as(kind(), more);
        }

        boolean betterThan(Courtier o) {
            return rank != o.rank ? rank > o.rank : number < o.number;
        }
    }

    private static class Earl extends Courtier {
        Earl(int number, int more, int rank) {
            super(number, more, rank);
        }

        @Override int waiting(int says, int hot, int supper) {
            return super.waiting(says, hot, supper) + (hot > 60 ? more : 0);
        }

        @Override int minds(int off) {
            return off > 0 ? 2 * super.minds(off) : super.minds(off);
        }
    }

    private static class Chaplain extends Courtier {
        Chaplain(int number, int more, int rank) {
            super(number, more, rank);
        }

        @Override int minds(int off) {
            return off < 0 ? super.minds(off) / 2 : super.minds(off);
        }

        @Override int likes(int says) {
            return bound(super.likes(says) - more, 0, 99);
        }
    }

    private static final class King extends Earl {
        King(int number, int more, int rank) {
            super(number, more, rank);
        }

        @Override int waiting(int says, int hot, int supper) {
            return super.waiting(says, hot, supper) / 2;
        }

        @Override int likes(int says) {
            return bound(99 - super.likes(says), 0, 99);
        }
    }

    private static final class Viscount extends Chaplain {
        Viscount(int number, int more, int rank) {
            super(number, more, rank);
        }

        @Override int minds(int off) {
            return Math.max(0, super.minds(off) - more);
        }

        @Override int waiting(int says, int hot, int supper) {
            return supper % 4 == 0 ? more : super.waiting(says, hot, supper);
        }
    }

    private static final class Lover extends Courtier {
        Lover(int number, int more, int rank) {
            super(number, more, rank);
        }

        @Override int minds(int off) {
            return -more;
        }

        @Override int waiting(int says, int hot, int supper) {
            return 0;
        }
    }

    private static int bound(int v, int least, int most) {
        return v < least ? least : v > most ? most : v;
    }

    // ---- texts

    private interface Node {
        int of(Map<String, Integer> names);
    }

    private static final class Fault extends RuntimeException {
        private static final long serialVersionUID = 1L;
        final int place;

        Fault(int place) {
            super("fault", null, false, false);
            this.place = place;
        }
    }

    private static final class Parse {
        final String tape;
        int at;

        Parse(String tape) {
            this.tape = tape;
        }

        /** The token at hand, not taken: "" at the end. */
        String look() {
            while (at < tape.length() && (tape.charAt(at) == ' ' || tape.charAt(at) == '\n')) {
                at++;
            }
            String rest = tape.substring(at);
            if (rest.isEmpty()) {
                return "";
            }
            String word = leading(rest, "abcdefghijklmnopqrstuvwxyz");
            if (!word.isEmpty()) {
                return word;
            }
            String number = leading(rest, "0123456789");
            if (!number.isEmpty()) {
                return number;
            }
            return rest.substring(0, 1);
        }

        private static String leading(String s, String of) {
            int n = 0;
            while (n < s.length() && of.indexOf(s.charAt(n)) >= 0) {
                n++;
            }
            return s.substring(0, n);
        }

        boolean isNext(String token) {
            return look().equals(token);
        }

        Fault fault() {
            look();
            return new Fault(at);
        }

        void take() {
            at += look().length();
        }

        void must(String token) {
            if (!isNext(token)) {
                throw fault();
            }
            take();
        }

        Node[] whole() {
            Node[] parts = new Node[3];
            int i = 0;
            for (String key : List.of("cools", "waits", "likes")) {
                must(key);
                parts[i++] = e(0);
                must(";");
            }
            if (!look().isEmpty()) {
                throw fault();
            }
            return parts;
        }

        Node e(int open) {
            Node left = and(open);
            while (isNext("or")) {
                take();
                Node a = left;
                Node b = and(open);
                left = n -> (a.of(n) != 0 | b.of(n) != 0) ? 1 : 0;
            }
            return left;
        }

        Node and(int open) {
            Node left = not(open);
            while (isNext("and")) {
                take();
                Node a = left;
                Node b = not(open);
                left = n -> (a.of(n) != 0 & b.of(n) != 0) ? 1 : 0;
            }
            return left;
        }

        int deeper(int open) {
            if (open == 5) {
                throw fault();
            }
            take();
            return open + 1;
        }

        Node not(int open) {
            if (isNext("not")) {
                Node a = not(deeper(open));
                return n -> a.of(n) == 0 ? 1 : 0;
            }
            Node a = sum(open);
            if (isNext("<")) {
                take();
                Node b = sum(open);
                return n -> a.of(n) < b.of(n) ? 1 : 0;
            }
            if (isNext("=")) {
                take();
                Node b = sum(open);
                return n -> a.of(n) == b.of(n) ? 1 : 0;
            }
            return a;
        }

        Node sum(int open) {
            Node left = term(open);
            while (isNext("+") || isNext("-")) {
                boolean plus = isNext("+");
                take();
                Node a = left;
                Node b = term(open);
                left = plus ? n -> a.of(n) + b.of(n) : n -> a.of(n) - b.of(n);
            }
            return left;
        }

        Node term(int open) {
            Node left = one(open);
            while (isNext("*")) {
                take();
                Node a = left;
                Node b = one(open);
                left = n -> a.of(n) * b.of(n);
            }
            return left;
        }

        Node one(int open) {
            String t = look();
            if (t.matches("[0-9]{1,4}")) {
                take();
                int v = Integer.parseInt(t);
                return n -> v;
            }
            if (List.of("heat", "minute", "down", "rank", "mood", "more").contains(t)) {
                take();
                return n -> n.get(t);
            }
            if (t.equals("-")) {
                Node a = one(deeper(open));
                return n -> -a.of(n);
            }
            if (t.equals("(")) {
                Node a = e(deeper(open));
                must(")");
                return a;
            }
            throw fault();
        }
    }

    // ---- the state

    private List<Courtier> all = new ArrayList<>();
    private int supper, heat = 90, law;
    private final List<Node[]> texts = new ArrayList<>();
    private StringBuilder tape = new StringBuilder();
    private List<int[]> imageCourt;
    private int imageSupper, imageHeat, imageLaw;
    private final Object[] sheets = new Object[4];

    SoupModel() {
        texts.add(new Parse("cools 2 ; waits 3 ; likes 50 ;").whole());
    }

    private int says(int part, int rank, int mood, int more, int hot, int minute, int down) {
        Map<String, Integer> names = Map.of("heat", hot, "minute", minute, "down", down, "rank", part == 0 ? 0 : rank,
                "mood", part == 0 ? 0 : mood, "more", part == 0 ? 0 : more);
        return bound(texts.get(law)[part].of(names), 0, part == 1 ? 20 : 99);
    }

    private int says(int part, Courtier c, int hot, int minute, int down) {
        return c == null ? says(part, 0, 0, 0, hot, minute, down)
                : says(part, c.rank, c.mood, c.more, hot, minute, down);
    }

    /** What one had of a supper. */
    private static final class Had {
        int begins = -1, gets = -1, off = -6000, minds = -6000, down;

        int lessMood() {
            return begins < 0 ? 10 : minds;
        }
    }

    private static final class Supper {
        final Had[] had = new Had[6];
        int last = -1, lastMinute = -1, minds;
    }

    /** Minute by minute: who may begin begins, and if still somebody waits at its end, it cools. */
    private Supper supper(List<Courtier> there) {
        Supper s = new Supper();
        List<Courtier> line = new ArrayList<>(there);
        line.sort((a, b) -> a.betterThan(b) ? -1 : b.betterThan(a) ? 1 : 0);
        for (Courtier c : line) {
            s.had[c.number] = new Had();
            s.had[c.number].down = (int) there.stream().filter(o -> o != c && o.betterThan(c)).count();
        }
        int hot = heat;
        int next = 0;
        int due = 0;
        for (int minute = 0; minute <= 60; minute++) {
            while (next < line.size() && due == minute) {
                Courtier c = line.get(next);
                Had h = s.had[c.number];
                h.begins = minute;
                h.gets = hot;
                h.off = hot - c.likes(says(2, c, hot, minute, h.down));
                h.minds = c.minds(h.off);
                s.minds += h.minds;
                s.last = c.number;
                s.lastMinute = minute;
                due = minute + Math.max(0, c.waiting(says(1, c, hot, minute, h.down), hot, supper));
                next++;
            }
            if (next < line.size()) {
                hot = Math.max(0, hot - says(0, null, hot, minute, s.had[s.last].down));
            }
        }
        return s;
    }

    private Supper supper() {
        return supper(all);
    }

    private boolean out(int v, int least, int most) {
        return v < least || v > most;
    }

    private List<int[]> moment() {
        List<int[]> rows = new ArrayList<>();
        for (Courtier c : all) {
            rows.add(new int[] {c.rank, c.mood});
        }
        return rows;
    }

    private void restore(List<int[]> rows) {
        all = new ArrayList<>(all.subList(0, rows.size()));
        for (int i = 0; i < rows.size(); i++) {
            all.get(i).rank = rows.get(i)[0];
            all.get(i).mood = rows.get(i)[1];
        }
    }

    // ---- the face

    public int count(int what) {
        int[] answers = {all.size(), supper, heat, texts.size(), law, tape.length()};
        return out(what, 0, 5) ? -2 : answers[what];
    }

    public int brings(int what, int v) {
        if (what == 0 && !out(v, 0, 999)) {
            int was = supper;
            supper = v;
            return was;
        }
        if (what == 1 && !out(v, 0, 99)) {
            int was = heat;
            heat = v;
            return was;
        }
        return -2;
    }

    public int feed(int n, int a, int b, int c, int d, int e) {
        int[] five = {a, b, c, d, e};
        if (out(n, 1, 5) || Arrays.stream(five).anyMatch(v -> out(v, 0, 255))) {
            return -2;
        }
        if (tape.length() + n > 160) {
            return -4;
        }
        for (int i = 0; i < n; i++) {
            tape.append((char) five[i]);
        }
        return tape.length();
    }

    public int text() {
        if (texts.size() == 6) {
            return -4;
        }
        String whole = tape.toString();
        tape = new StringBuilder();
        try {
            texts.add(new Parse(whole).whole());
            return texts.size() - 1;
        } catch (Fault f) {
            return -100 - f.place;
        }
    }

    public int force(int t) {
        if (out(t, 0, texts.size() - 1)) {
            return -2;
        }
        int was = law;
        law = t;
        return was;
    }

    public int asks(int part, int p, int now, int minute, int nth) {
        if (out(part, 0, 2) || out(p, -1, all.size() - 1) || out(now, 0, 99) || out(minute, 0, 60) || out(nth, 0, 6)) {
            return -2;
        }
        return says(part, p < 0 ? null : all.get(p), now, minute, nth);
    }

    public int courtier(int kindMore, int ranks) {
        if (out(kindMore, 0, 59) || out(ranks, 0, 99)) {
            return -2;
        }
        if (all.size() == 6) {
            return -4;
        }
        all.add(Courtier.of(kindMore / 10, all.size(), kindMore % 10, ranks));
        return all.size() - 1;
    }

    public int put(int p, int what, int v) {
        if (out(p, 0, all.size() - 1)) {
            return -5;
        }
        Courtier c = all.get(p);
        if (what == 0 && !out(v, 0, 99)) {
            int was = c.rank;
            c.rank = v;
            return was;
        }
        if (what == 1 && !out(v, 0, 999)) {
            int was = c.mood;
            c.mood = v;
            return was;
        }
        return -7;
    }

    public int told(int p, int what) {
        if (out(p, 0, all.size() - 1)) {
            return -5000;
        }
        if (out(what, 0, 8)) {
            return -7000;
        }
        Courtier c = all.get(p);
        Had h = supper().had[p];
        return new int[] {c.rank, c.mood, c.kind(), c.more, h.down, h.begins, h.gets, h.off, h.minds}[what];
    }

    public int table(int what) {
        if (out(what, 0, 4)) {
            return -100000;
        }
        Supper s = supper();
        int never = 0;
        int worst = -1;
        for (int p = 0; p < all.size(); p++) {
            if (s.had[p].begins < 0) {
                never += 1 << p;
            } else if (worst < 0 || s.had[p].minds > s.had[worst].minds) {
                worst = p;
            }
        }
        return new int[] {s.last, s.lastMinute, s.minds, never, worst}[what];
    }

    public int sup() {
        if (supper == 999) {
            return -100000;
        }
        return truly().minds;
    }

    private Supper truly() {
        Supper s = supper();
        for (Courtier c : all) {
            c.mood = bound(c.mood - s.had[c.number].lessMood(), 0, 999);
        }
        supper++;
        return s;
    }

    public int run(int p, int n, int what) {
        if (out(p, 0, all.size() - 1) || out(n, 0, 20) || out(what, 0, 2)) {
            return -100000;
        }
        List<int[]> before = moment();
        int wasSupper = supper;
        int less = 0;
        int minds = 0;
        for (int i = 0; i < n; i++) {
            Supper s = truly();
            less += s.had[p].lessMood();
            minds += s.minds;
        }
        int mood = all.get(p).mood;
        restore(before);
        supper = wasSupper;
        return new int[] {mood, less, minds}[what];
    }

    /** The first of the tried ones that has the least. */
    private static final class Best {
        int who;
        int least;

        Best(int who, int least) {
            this.who = who;
            this.least = least;
        }

        void tried(int one, int minds) {
            if (minds < least) {
                who = one;
                least = minds;
            }
        }

        int answer(int what) {
            return what == 0 ? who : least;
        }
    }

    public int cook(int what) {
        if (out(what, 0, 1)) {
            return -100000;
        }
        int was = heat;
        Best best = new Best(0, Integer.MAX_VALUE);
        for (heat = 0; heat < 100; heat++) {
            best.tried(heat, supper().minds);
        }
        heat = was;
        return best.answer(what);
    }

    public int raise(int what) {
        if (out(what, 0, 1)) {
            return -100000;
        }
        List<int[]> before = moment();
        Best best = new Best(-1, supper().minds);
        for (int pair = 0; pair < 60; pair++) {
            int p = pair / 10;
            int q = pair % 10;
            if (p < q && q < all.size()) {
                int rank = all.get(p).rank;
                all.get(p).rank = all.get(q).rank;
                all.get(q).rank = rank;
                best.tried(pair, supper().minds);
                restore(before);
            }
        }
        return best.answer(what);
    }

    public int exile(int what) {
        if (out(what, 0, 1)) {
            return -100000;
        }
        Best best = new Best(-1, supper().minds);
        for (Courtier c : all) {
            List<Courtier> others = new ArrayList<>(all);
            others.remove(c);
            best.tried(c.number, supper(others).minds);
        }
        return best.answer(what);
    }

    public int seat(int p, int what) {
        if (out(p, 0, all.size() - 1)) {
            return -5000;
        }
        if (out(what, 0, 1)) {
            return -7000;
        }
        Courtier c = all.get(p);
        int was = c.rank;
        Best best = new Best(0, Integer.MAX_VALUE);
        for (c.rank = 0; c.rank < 100; c.rank++) {
            best.tried(c.rank, supper().had[p].lessMood());
        }
        c.rank = was;
        return best.answer(what);
    }

    public int order(int what) {
        if (out(what, 0, 1)) {
            return -100000;
        }
        List<int[]> before = moment();
        Best best = new Best(0, Integer.MAX_VALUE);
        seatBehind("", best);
        restore(before);
        return best.answer(what);
    }

    private void seatBehind(String digits, Best best) {
        if (digits.length() == all.size()) {
            best.tried(digits.isEmpty() ? 0 : Integer.parseInt(digits), supper().minds);
        }
        for (Courtier c : all) {
            String digit = String.valueOf(c.number + 1);
            if (!digits.contains(digit)) {
                c.rank = all.size() - digits.length();
                seatBehind(digits + digit, best);
                // those behind have changed only their own ranks
                c.rank = 0;
            }
        }
    }

    private static long lowest(int above, int below, int part) {
        int by = 1;
        for (int d = 2; d <= below; d++) {
            if (above % d == 0 && below % d == 0) {
                by = d;
            }
        }
        return (part == 0 ? above : below) / by;
    }

    public long mean(int part) {
        Supper s = supper();
        int got = 0;
        int many = 0;
        for (Courtier c : all) {
            if (s.had[c.number].begins >= 0) {
                got += s.had[c.number].gets;
                many++;
            }
        }
        return out(part, 0, 1) || many == 0 ? NO : lowest(got, many, part);
    }

    private static int size(Object row) {
        return java.lang.reflect.Array.getLength(row);
    }

    private int refusal(int s) {
        if (out(s, 0, 3)) {
            return -2;
        }
        if (sheets[s] == null) {
            return -11;
        }
        return size(sheets[s]) > all.size() ? -2 : 0;
    }

    private int judged(int s) {
        Supper evening = supper();
        for (int i = 0; i < size(sheets[s]); i++) {
            if (java.lang.reflect.Array.getInt(sheets[s], i) != evening.had[i].gets) {
                return i;
            }
        }
        return -1;
    }

    public int judge(int s) {
        return refusal(s) != 0 ? refusal(s) : judged(s);
    }

    public int kinds(int s, int p, int sort) {
        if (refusal(s) != 0) {
            return refusal(s);
        }
        if (out(p, 0, all.size() - 1)) {
            return -5;
        }
        if (out(sort, 0, 1)) {
            return -7;
        }
        Courtier c = all.get(p);
        int bits = 0;
        for (int v = 0; v < (sort == 0 ? 6 : 10); v++) {
            all.set(p, sort == 0 ? c.as(v, c.more) : c.as(c.kind(), v));
            bits |= judged(s) == -1 ? 1 << v : 0;
        }
        all.set(p, c);
        return bits;
    }

    private int manyOrLeast(List<Integer> fitting, int what) {
        return what == 0 ? fitting.size() : fitting.isEmpty() ? -1 : fitting.get(0);
    }

    public int ranks(int s, int p, int what) {
        if (refusal(s) != 0) {
            return refusal(s);
        }
        if (out(p, 0, all.size() - 1)) {
            return -5;
        }
        if (out(what, 0, 1)) {
            return -7;
        }
        Courtier c = all.get(p);
        List<Integer> fitting = new ArrayList<>();
        for (int v = 0; v < 100; v++) {
            Courtier other = c.twin();
            other.rank = v;
            all.set(p, other);
            if (judged(s) == -1) {
                fitting.add(v);
            }
        }
        all.set(p, c);
        return manyOrLeast(fitting, what);
    }

    public int heats(int s, int what) {
        if (refusal(s) != 0) {
            return refusal(s);
        }
        if (out(what, 0, 1)) {
            return -7;
        }
        int was = heat;
        List<Integer> fitting = new ArrayList<>();
        for (heat = 0; heat < 100; heat++) {
            if (judged(s) == -1) {
                fitting.add(heat);
            }
        }
        heat = was;
        return manyOrLeast(fitting, what);
    }

    public int laws(int s) {
        if (refusal(s) != 0) {
            return refusal(s);
        }
        int was = law;
        int bits = 0;
        for (law = 0; law < texts.size(); law++) {
            bits |= judged(s) == -1 ? 1 << law : 0;
        }
        law = was;
        return bits;
    }

    public int film(int s) {
        if (out(s, 0, 3)) {
            return -2;
        }
        byte[] row = new byte[all.size()];
        Supper evening = supper();
        for (int p = 0; p < row.length; p++) {
            row[p] = (byte) evening.had[p].gets;
        }
        sheets[s] = row;
        return row.length;
    }

    private Supper drawnSupper(int seed) {
        List<int[]> before = moment();
        long lot = seed + 1;
        for (Courtier c : all) {
            lot = lot * 48271 % 2147483647;
            c.rank = (int) (lot % 100);
        }
        Supper s = supper();
        restore(before);
        return s;
    }

    public int drawn(int seed, int what) {
        if (out(seed, 0, 99999) || out(what, 0, 1)) {
            return -100000;
        }
        return what == 0 ? drawnSupper(seed).minds : drawnSupper(seed).last;
    }

    public long odds(int seed, int seeds, int most, int part) {
        if (out(seed, 0, 99999) || out(seeds, 1, 40) || out(most, -999, 9999) || out(part, 0, 1)) {
            return NO;
        }
        int fine = 0;
        for (int i = seed; i < seed + seeds; i++) {
            fine += drawnSupper(i).minds <= most ? 1 : 0;
        }
        return lowest(fine, seeds, part);
    }

    public int image() {
        imageCourt = moment();
        imageSupper = supper;
        imageHeat = heat;
        imageLaw = law;
        return all.size();
    }

    public int back() {
        if (imageCourt == null) {
            return -3;
        }
        restore(imageCourt);
        supper = imageSupper;
        heat = imageHeat;
        law = imageLaw;
        return all.size();
    }

    public int sheet(int s, int sort, int n) {
        if (out(s, 0, 3) || out(sort, -1, 2) || (sort >= 0 && n > 40)) {
            return -2;
        }
        try {
            sheets[s] = sort < 0 ? null : sort == 0 ? new byte[n] : sort == 1 ? new short[n] : new int[n];
            return 1;
        } catch (NegativeArraySizeException e) {
            return -14;
        }
    }

    public int cell(int s, int i, int v) {
        if (out(s, 0, 3)) {
            return -2;
        }
        try {
            if (sheets[s] instanceof byte[]) {
                ((byte[]) sheets[s])[i] = (byte) v;
            } else if (sheets[s] instanceof short[]) {
                ((short[]) sheets[s])[i] = (short) v;
            } else {
                ((int[]) sheets[s])[i] = v;
            }
            return 1;
        } catch (NullPointerException e) {
            return -11;
        } catch (ArrayIndexOutOfBoundsException e) {
            return -12;
        }
    }

    public int copy(int s, int i, int other, int j, int n) {
        if (out(s, 0, 3) || out(other, 0, 3)) {
            return -2;
        }
        try {
            System.arraycopy(sheets[s], i, sheets[other], j, n);
            return n;
        } catch (NullPointerException e) {
            return -11;
        } catch (ArrayStoreException e) {
            return -13;
        } catch (IndexOutOfBoundsException e) {
            return -12;
        }
    }

    public int courtBy(int s, int sort, int from, int n) {
        if (out(s, 0, 3) || out(sort, 0, 2) || out(n, 0, 6)) {
            return -2;
        }
        if (sheets[s] == null) {
            return -11;
        }
        if (sheets[s].getClass() != List.of(byte[].class, short[].class, int[].class).get(sort)) {
            return -13;
        }
        int came = 0;
        try {
            for (int k = 0; k < n; k++) {
                int kindMore = java.lang.reflect.Array.getInt(sheets[s], from + 2 * k);
                int rank = java.lang.reflect.Array.getInt(sheets[s], from + 2 * k + 1);
                came += courtier(kindMore, rank) >= 0 ? 1 : 0;
            }
            return came;
        } catch (ArrayIndexOutOfBoundsException e) {
            return -12;
        }
    }

    public int taken(int i, int kind) {
        if (out(kind, 0, 6)) {
            return -2;
        }
        if (out(i, 0, 11)) {
            return -12;
        }
        if (i % 6 >= all.size()) {
            return -11;
        }
        Courtier c = all.get(i % 6);
        if (i >= 6) {
            return kind == 6 ? c.mood : -13;
        }
        List<Class<? extends Courtier>> classes = List.of(Courtier.class, Earl.class, Chaplain.class, King.class,
                Viscount.class, Lover.class);
        return kind < 6 && classes.get(kind).isInstance(c) ? i : -13;
    }
}
