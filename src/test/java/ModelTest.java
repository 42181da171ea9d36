import java.util.ArrayList;
import java.util.Comparator;
import java.util.HashMap;
import java.util.LinkedList;
import java.util.List;
import java.util.Map;
import java.util.Random;
import java.util.TreeMap;
import java.util.TreeSet;
import java.util.regex.Matcher;
import java.util.regex.Pattern;

// Long runs of calls on CapStacks and on a second program that was written from the document
// by itself (with lists, maps and patterns); all answers have to be the same.
public final class ModelTest {
    private static final int INVALID = -1;
    private static final int NOT_POSSIBLE = -2;
    private static final int LIMIT = -3;
    private static final int NOT_FOUND = -4;

    record Terms(int price, int multiple, int rank, int kind, int ratio) { }

    record Certificate(int holder, int of, int shares, int made) { }

    record Grant(int holder, int shares, int strike, int cliff, int term, int made, int taken) { }

    record Round(int of, int shares, int leader, Map<Integer, Integer> rights, Map<Integer, Integer> taken) { }

    static final class State {
        List<Terms> classes = new ArrayList<>(List.of(new Terms(0, 0, -1, 0, 1)));
        int holders;
        TreeMap<Integer, Certificate> certificates = new TreeMap<>();
        List<Grant> grants = new ArrayList<>();
        Map<Integer, Integer> left = new HashMap<>();
        Round round;
        int time;
        int issued;
        int bought;
        int optionMoney;
        int roundMoney;

        State copy() {
            State s = new State();
            s.classes = new ArrayList<>(classes);
            s.holders = holders;
            s.certificates = new TreeMap<>(certificates);
            s.grants = new ArrayList<>(grants);
            s.left = new HashMap<>(left);
            s.round = round == null ? null : new Round(round.of, round.shares, round.leader, round.rights, new HashMap<>(round.taken));
            s.time = time;
            s.issued = issued;
            s.bought = bought;
            s.optionMoney = optionMoney;
            s.roundMoney = roundMoney;
            return s;
        }

        long shares(int holder, int of) {
            return certificates.values().stream().filter(c -> (holder < 0 || c.holder == holder) && c.of == of)
                .mapToLong(Certificate::shares).sum();
        }

        long commons(int holder) {
            return certificates.values().stream().filter(c -> holder < 0 || c.holder == holder)
                .mapToLong(c -> (long) c.shares * classes.get(c.of).ratio).sum();
        }

        int put(int holder, int of, int shares) {
            int n = 0;
            while (certificates.containsKey(n)) {
                n++;
            }
            certificates.put(n, new Certificate(holder, of, shares, time));
            return n;
        }

        int vested(Grant g) {
            int gone = left.getOrDefault(g.holder, time) - g.made;
            return gone < g.cliff ? 0 : gone >= g.term ? g.shares : g.shares * gone / g.term;
        }

        int takeable(Grant g) {
            Integer l = left.get(g.holder);
            return l != null && time > l + 3 ? 0 : vested(g) - g.taken;
        }

        int takeables(int holder) {
            return grants.stream().filter(g -> g.holder == holder).mapToInt(this::takeable).sum();
        }

        boolean holder(int h) {
            return h >= 0 && h < holders;
        }

        boolean ofClass(int k) {
            return k >= 0 && k < classes.size();
        }

        int issue(int h, int k, int n) {
            if (!holder(h) || !ofClass(k) || n < 1 || n > 9999) return INVALID;
            if (round != null) return NOT_POSSIBLE;
            if (certificates.size() == 24) return LIMIT;
            issued += n;
            return put(h, k, n);
        }

        int split(int c, int h, int n) {
            Certificate old = certificates.get(c);
            if (old == null || !holder(h) || old.holder == h || n < 1 || n > old.shares) return INVALID;
            if (round != null) return NOT_POSSIBLE;
            if (n < old.shares && certificates.size() == 24) return LIMIT;
            lessen(c, n);
            return put(h, old.of, n);
        }

        void lessen(int c, int n) {
            Certificate old = certificates.remove(c);
            if (old.shares > n) certificates.put(c, new Certificate(old.holder, old.of, old.shares - n, old.made));
        }

        int back(int c, int n) {
            Certificate old = certificates.get(c);
            if (old == null || n < 1 || n > old.shares) return INVALID;
            if (round != null) return NOT_POSSIBLE;
            lessen(c, n);
            bought += n;
            return old.shares - n;
        }

        int grant(int h, int n, int strike, int cliff, int term) {
            if (!holder(h) || n < 1 || n > 9999 || strike < 0 || strike > 99 || term < 1 || term > 60 || cliff < 0 || cliff > term) return INVALID;
            if (left.containsKey(h)) return NOT_POSSIBLE;
            if (grants.size() == 8) return LIMIT;
            grants.add(new Grant(h, n, strike, cliff, term, time, 0));
            return grants.size() - 1;
        }

        int take(int i, int n) {
            if (i < 0 || i >= grants.size() || n < 1 || n > 9999) return INVALID;
            Grant g = grants.get(i);
            if (round != null || takeable(g) < n) return NOT_POSSIBLE;
            if (certificates.size() == 24) return LIMIT;
            grants.set(i, new Grant(g.holder, g.shares, g.strike, g.cliff, g.term, g.made, g.taken + n));
            issued += n;
            optionMoney += n * g.strike;
            put(g.holder, 0, n);
            return n * g.strike;
        }

        int leave(int h) {
            if (!holder(h)) return INVALID;
            if (left.containsKey(h)) return NOT_POSSIBLE;
            int can = takeables(h);
            left.put(h, time);
            return can;
        }

        int pass(int m) {
            if (m < 1 || m > 99) return INVALID;
            if (time > 999 - m) return LIMIT;
            return time += m;
        }

        int round(int k, int n, int leader) {
            if (k < 1 || !ofClass(k) || n < 1 || n > 9999 || !holder(leader)) return INVALID;
            if (round != null) return NOT_POSSIBLE;
            Map<Integer, Integer> rights = new HashMap<>();
            for (int h = 0; h < holders && commons(-1) > 0; h++) rights.put(h, (int) (n * commons(h) / commons(-1)));
            round = new Round(k, n, leader, rights, new HashMap<>());
            return n * classes.get(k).price;
        }

        int takeUp(int h, int n) {
            if (!holder(h) || n < 1 || n > 9999) return INVALID;
            if (round == null) return NOT_POSSIBLE;
            int more = round.rights.getOrDefault(h, 0) - round.taken.getOrDefault(h, 0) - n;
            if (more < 0) return NOT_POSSIBLE;
            round.taken.merge(h, n, Integer::sum);
            return more;
        }

        int close() {
            if (round == null) return NOT_POSSIBLE;
            int rest = round.shares - round.taken.values().stream().mapToInt(i -> i).sum();
            int made = round.taken.size() + (rest > 0 ? 1 : 0);
            if (certificates.size() + made > 24) return LIMIT;
            for (int h : new TreeSet<>(round.taken.keySet())) put(h, round.of, round.taken.get(h));
            if (rest > 0) put(round.leader, round.of, rest);
            issued += round.shares;
            roundMoney += round.shares * classes.get(round.of).price;
            round = null;
            return made;
        }

        // ---- exits

        long preference(int k) {
            Terms t = classes.get(k);
            return shares(-1, k) * t.price * t.multiple;
        }

        long common(int k) {
            return shares(-1, k) * classes.get(k).ratio;
        }

        long[] pay(long proceeds, int set) {
            long[] got = new long[classes.size()];
            TreeMap<Integer, List<Integer>> byRank = new TreeMap<>(Comparator.reverseOrder());
            for (int k = 1; k < classes.size(); k++) {
                if ((set & 1 << k) == 0 && shares(-1, k) > 0) byRank.computeIfAbsent(classes.get(k).rank, r -> new ArrayList<>()).add(k);
            }
            long rest = proceeds;
            for (List<Integer> rank : byRank.values()) {
                long sum = rank.stream().mapToLong(this::preference).sum();
                if (rest < sum) {
                    for (int k : rank) got[k] = rest * preference(k) / sum;
                    return got;
                }
                for (int k : rank) got[k] = preference(k);
                rest -= sum;
            }
            List<Integer> sharing = new ArrayList<>();
            for (int k = 0; k < classes.size(); k++) {
                if (k == 0 || (set & 1 << k) != 0 || classes.get(k).kind > 0) sharing.add(k);
            }
            share(rest, sharing, set, got);
            return got;
        }

        void share(long rest, List<Integer> sharing, int set, long[] got) {
            long sum = sharing.stream().mapToLong(this::common).sum();
            if (sum == 0) return;
            for (int k : sharing) {
                if (classes.get(k).kind == 2 && (set & 1 << k) == 0 && got[k] + rest * common(k) / sum > 2 * preference(k)) {
                    long more = 2 * preference(k) - got[k];
                    got[k] = 2 * preference(k);
                    List<Integer> others = new ArrayList<>(sharing);
                    others.remove(Integer.valueOf(k));
                    share(rest - more, others, set, got);
                    return;
                }
            }
            for (int k : sharing) got[k] += rest * common(k) / sum;
        }

        int converts(int proceeds, int set) {
            for (int k = 1; k < classes.size(); k++) {
                int with = set | 1 << k;
                if (with != set && shares(-1, k) > 0 && pay(proceeds, with)[k] > pay(proceeds, set)[k]) return converts(proceeds, with);
            }
            return set;
        }

        long[] exit(int proceeds) {
            return pay(proceeds, converts(proceeds, 0));
        }
    }

    static final class Model {
        State now = new State();
        final LinkedList<State> history = new LinkedList<>();
        String text = "";
        int faultAt;
        int faultReason;
        int faultCause;
        int commands;

        int changed(State before, int answer) {
            if (answer >= 0) {
                history.add(before);
                if (history.size() == 5) history.removeFirst();
            }
            return answer;
        }

        static final String NUMBER = " (\\d{1,4})";
        static final Pattern COMMAND = Pattern.compile(
            "(?:(issue|split)" + NUMBER.repeat(3) + "|(back|take)" + NUMBER.repeat(2) + "|(grant)" + NUMBER.repeat(5)
            + "|(leave|pass)" + NUMBER + ");");

        State rehearse() {
            State s = now.copy();
            faultReason = 0;
            commands = 0;
            int at = 0;
            while (at < text.length()) {
                Matcher m = COMMAND.matcher(text).region(at, text.length());
                faultAt = at;
                if (!m.lookingAt()) {
                    faultReason = 1;
                    return s;
                }
                int answer = perform(s, m.group().substring(0, m.group().length() - 1).split(" "));
                if (answer < 0) {
                    faultReason = 2;
                    faultCause = answer;
                    return s;
                }
                commands++;
                at = m.end();
            }
            return s;
        }

        static int perform(State s, String[] words) {
            int[] n = new int[6];
            for (int i = 1; i < words.length; i++) n[i] = Integer.parseInt(words[i]);
            return switch (words[0]) {
                case "issue" -> s.issue(n[1], n[2], n[3]);
                case "split" -> s.split(n[1], n[2], n[3]);
                case "back" -> s.back(n[1], n[2]);
                case "grant" -> s.grant(n[1], n[2], n[3], n[4], n[5]);
                case "take" -> s.take(n[1], n[2]);
                case "leave" -> s.leave(n[1]);
                default -> s.pass(n[1]);
            };
        }

        int shareClass(int price, int multiple, int rank, int kind, int ratio) {
            if (price < 1 || price > 99 || multiple < 1 || multiple > 3 || rank < 0 || rank > 9 || kind < 0 || kind > 2 || ratio < 1 || ratio > 4) return INVALID;
            if (now.classes.size() == 5) return LIMIT;
            now.classes.add(new Terms(price, multiple, rank, kind, ratio));
            return now.classes.size() - 1;
        }

        int roundOf(int h, int what) {
            if (!now.holder(h) || what < 0 || what > 4) return INVALID;
            if (now.round == null) return NOT_FOUND;
            return List.of(now.round.rights.getOrDefault(h, 0), now.round.taken.getOrDefault(h, 0), now.round.of, now.round.shares, now.round.leader).get(what);
        }

        int classOf(int k, int what) {
            if (!now.ofClass(k) || what < 0 || what > 7) return INVALID;
            if (k == 0 && what > 2) return NOT_FOUND;
            Terms t = now.classes.get(k);
            return List.of((int) now.shares(-1, k), (int) now.preference(k), (int) now.common(k), t.price, t.multiple, t.rank, t.kind, t.ratio).get(what);
        }

        int certificateOf(int c, int what) {
            Certificate x = now.certificates.get(c);
            return x == null || what < 0 || what > 3 ? INVALID : List.of(x.holder, x.of, x.shares, x.made).get(what);
        }

        int grantOf(int i, int what) {
            if (i < 0 || i >= now.grants.size() || what < 0 || what > 6) return INVALID;
            Grant g = now.grants.get(i);
            return List.of(g.holder, g.shares, g.strike, now.vested(g), g.taken, now.takeable(g), g.made).get(what);
        }

        int holderOf(int h, int what) {
            if (!now.holder(h) || what < 0 || what > 9) return INVALID;
            if (what < 5) return (int) now.shares(h, what);
            long all = now.commons(-1);
            return List.of((int) now.commons(h), now.left.getOrDefault(h, NOT_FOUND),
                (int) now.certificates.values().stream().filter(c -> c.holder == h).count(), now.takeables(h),
                all == 0 ? NOT_FOUND : (int) (1000 * now.commons(h) / all)).get(what - 5);
        }

        int count(int what) {
            int[] all = {now.classes.size(), now.holders, now.certificates.size(), now.grants.size(), now.time, (int) now.commons(-1),
                now.round == null ? 0 : 1, now.issued, now.bought, now.optionMoney, now.roundMoney, history.size(), text.length()};
            return what < 0 || what > 12 ? INVALID : all[what];
        }

        int exit(int which, int proceeds, int arg) {
            if (proceeds < 0 || proceeds > 9999999) return INVALID;
            if (which == 0) return now.converts(proceeds, 0);
            if (which == 1 && !now.ofClass(arg) || which == 2 && !now.holder(arg) || which == 3 && arg < 0) return INVALID;
            long[] got = now.exit(proceeds);
            if (which == 1) return (int) got[arg];
            if (which == 3) {
                List<Integer> order = new ArrayList<>();
                for (int k = 0; k < got.length; k++) order.add(k);
                order.sort(Comparator.comparing((Integer k) -> -got[k]).thenComparing(k -> k));
                return arg >= order.size() ? NOT_FOUND : order.get(arg);
            }
            long sum = 0;
            for (int k = 0; k < got.length; k++) sum += now.shares(-1, k) == 0 ? 0 : got[k] * now.shares(arg, k) / now.shares(-1, k);
            return (int) sum;
        }

        int fault(int what) {
            if (what < 0 || what > 2) return INVALID;
            rehearse();
            if (faultReason == 0 || what == 2 && faultReason == 1) return NOT_FOUND;
            return what == 0 ? faultAt : what == 1 ? faultReason : faultCause;
        }
    }

    static final Random random = new Random(20261118);
    static int style;
    static Model model;
    static CapStacks real;
    static StringBuilder log;
    static int wrong;
    static long calls;

    /** Mostly from the range, now and then beside it. */
    static int pick(int least, int most) {
        int r = random.nextInt(40);
        if (r == 0) return least - 1;
        if (r == 1) return most + 1;
        if (r == 2) return least;
        if (r == 3) return most;
        if (r == 4 && random.nextInt(4) == 0) return random.nextInt();
        return least + random.nextInt(most - least + 1);
    }

    static int pickHolder() {
        return pick(0, Math.max(0, model.now.holders - 1));
    }

    static int pickClass() {
        return pick(0, model.now.classes.size() - 1);
    }

    static int pickCertificate() {
        List<Integer> numbers = new ArrayList<>(model.now.certificates.keySet());
        return numbers.isEmpty() || random.nextInt(20) == 0 ? pick(0, 23) : numbers.get(random.nextInt(numbers.size()));
    }

    static int pickShares() {
        int r = random.nextInt(4);
        return style == 0 ? pick(1, 20) : style == 1 ? pick(1, 9999) : r == 0 ? pick(1, 9999) : r == 1 ? pick(1, 200) : pick(1, 12);
    }

    static int pickPart(int certificate) {
        Certificate c = model.now.certificates.get(certificate);
        int has = c == null ? 1 : c.shares;
        return random.nextInt(3) == 0 ? has : pick(1, has);
    }

    static int pickProceeds() {
        long all = 0;
        for (int k = 1; k < model.now.classes.size(); k++) all += model.now.preference(k);
        int limit = (int) Math.min(9999999, 4 * all + 10);
        int r = random.nextInt(8);
        return r == 0 ? pick(0, 9999999) : r == 1 ? 9999999 : r < 5 ? random.nextInt(limit) : random.nextInt(limit / 3 + 1);
    }

    static void check(String call, int got, int want) {
        calls++;
        log.append(call).append(" = ").append(got).append('\n');
        if (got != want) {
            wrong++;
            System.out.println(log + call + ": the class answered " + got + ", the model " + want);
        }
    }

    static String number(int n) {
        String s = Integer.toString(n);
        return random.nextInt(12) == 0 ? "0".repeat(Math.max(0, random.nextInt(5) - s.length())) + s : s;
    }

    static String command() {
        int c = pickCertificate();
        String s = switch (random.nextInt(7)) {
            case 0 -> "issue " + number(pickHolder()) + " " + number(pickClass()) + " " + number(pickShares());
            case 1 -> "split " + number(c) + " " + number(pickHolder()) + " " + number(pickPart(c));
            case 2 -> "back " + number(c) + " " + number(pickPart(c));
            case 3 -> "grant " + number(pickHolder()) + " " + number(pickShares()) + " " + number(pick(0, 99)) + " " + number(pick(0, 3)) + " " + number(pick(3, 20));
            case 4 -> "take " + number(pick(0, 7)) + " " + number(pick(1, 5));
            case 5 -> "leave " + number(pickHolder());
            default -> "pass " + number(pick(1, 20));
        } + ";";
        if (random.nextInt(15) > 0) return s;
        int at = random.nextInt(s.length());
        String instead = random.nextInt(3) == 0 ? "" : "" + "; 0a9\u007e".charAt(random.nextInt(6));
        return s.substring(0, at) + instead + s.substring(at + random.nextInt(2));
    }

    static void typeText() {
        if (random.nextInt(3) > 0) {
            check("clearText()", real.clearText(), model.text.length());
            model.text = "";
        }
        int commands = random.nextInt(4);
        StringBuilder typed = new StringBuilder();
        for (int i = 0; i < commands; i++) typed.append(command());
        for (char letter : typed.toString().toCharArray()) {
            typeOne(letter);
        }
    }

    static void typeOne(int letter) {
        int want = letter < 32 || letter > 126 ? INVALID : model.text.length() == 80 ? LIMIT : model.text.length() + 1;
        if (want > 0) model.text += (char) letter;
        check("type(" + letter + ")", real.type(letter), want);
    }

    static void change() {
        State before = model.now.copy();
        int c = pickCertificate();
        int h = pickHolder();
        int n = pickShares();
        int k = pickClass();
        int want;
        switch (random.nextInt(model.now.round == null ? 11 : 15)) {
            case 0: {
                int[] t = {random.nextInt(3) == 0 ? pick(1, 99) : pick(1, 9), pick(1, 3), random.nextInt(2) == 0 ? pick(0, 2) : pick(0, 9), pick(0, 2), pick(1, 4)};
                want = model.shareClass(t[0], t[1], t[2], t[3], t[4]);
                check("shareClass " + java.util.Arrays.toString(t), real.shareClass(t[0], t[1], t[2], t[3], t[4]), want);
                break;
            }
            case 1:
                want = model.now.holders == 8 ? LIMIT : model.now.holders++;
                check("holder()", real.holder(), want);
                break;
            case 2: case 3: case 4:
                want = model.now.issue(h, k, n);
                check("issue " + h + " " + k + " " + n, real.issue(h, k, n), want);
                break;
            case 5:
                n = pickPart(c);
                want = model.now.split(c, h, n);
                check("split " + c + " " + h + " " + n, real.split(c, h, n), want);
                break;
            case 6:
                n = pickPart(c);
                want = model.now.back(c, n);
                check("buyBack " + c + " " + n, real.buyBack(c, n), want);
                break;
            case 7: {
                int strike = pick(0, 99);
                int term = random.nextInt(2) == 0 ? pick(1, 60) : pick(1, 5);
                int cliff = pick(0, Math.max(0, Math.min(term, 60)));
                want = model.now.grant(h, n, strike, cliff, term);
                check("grant " + h + " " + n + " " + strike + " " + cliff + " " + term, real.grant(h, n, strike, cliff, term), want);
                break;
            }
            case 8: {
                int g = pick(0, Math.max(0, model.now.grants.size() - 1));
                int can = g < 0 || g >= model.now.grants.size() ? 0 : model.now.takeable(model.now.grants.get(g));
                n = pick(1, Math.max(1, can));
                want = model.now.take(g, n);
                check("take " + g + " " + n, real.take(g, n), want);
                break;
            }
            case 9:
                if (random.nextInt(3) == 0) {
                    want = model.now.leave(h);
                    check("leave " + h, real.leave(h), want);
                } else {
                    int m = random.nextInt(3) == 0 ? pick(1, 99) : pick(1, 4);
                    want = model.now.pass(m);
                    check("pass " + m, real.pass(m), want);
                }
                break;
            case 10:
                want = model.now.round(k, n, h);
                check("round " + k + " " + n + " " + h, real.round(k, n, h), want);
                break;
            case 11: case 12: case 13:
                n = model.now.round == null ? n : pick(1, Math.max(1, model.now.round.rights.getOrDefault(h, 1)));
                want = model.now.takeUp(h, n);
                check("takeUp " + h + " " + n, real.takeUp(h, n), want);
                break;
            default:
                want = model.now.close();
                check("close()", real.close(), want);
                break;
        }
        model.changed(before, want);
    }

    static void ask() {
        int what = pick(0, 12);
        int h = pickHolder();
        int k = pickClass();
        int c = pickCertificate();
        int g = pick(0, 7);
        int p = pickProceeds();
        int place = pick(0, 4);
        check("roundOf " + h + " " + what % 6, real.roundOf(h, what % 6), model.roundOf(h, what % 6));
        check("classOf " + k + " " + what, real.classOf(k, what), model.classOf(k, what));
        check("certificateOf " + c + " " + what % 5, real.certificateOf(c, what % 5), model.certificateOf(c, what % 5));
        check("grantOf " + g + " " + what % 8, real.grantOf(g, what % 8), model.grantOf(g, what % 8));
        check("holderOf " + h + " " + what, real.holderOf(h, what), model.holderOf(h, what));
        check("count " + what, real.count(what), model.count(what));
        check("converts " + p, real.converts(p), model.exit(0, p, 0));
        check("classGets " + p + " " + k, real.classGets(p, k), model.exit(1, p, k));
        check("holderGets " + p + " " + h, real.holderGets(p, h), model.exit(2, p, h));
        check("byGain " + p + " " + place, real.byGain(p, place), model.exit(3, p, place));
    }

    static void undo() {
        int want = NOT_POSSIBLE;
        if (!model.history.isEmpty()) {
            model.now = model.history.removeLast();
            want = model.history.size();
        }
        check("undo()", real.undo(), want);
    }

    static void play() {
        int what = pick(0, 2);
        check("fault " + what + " of " + model.text, real.fault(what), model.fault(what));
        State after = model.rehearse();
        int want = model.faultReason == 0 ? model.commands : NOT_POSSIBLE;
        State before = model.now;
        if (want >= 0) model.now = after;
        check("play() of " + model.text, real.play(), model.changed(before, want));
    }

    static void askAll() {
        for (int what = -1; what <= 13; what++) {
            check("count " + what, real.count(what), model.count(what));
            for (int n = -1; n <= 24; n++) {
                check("roundOf", real.roundOf(n, what), model.roundOf(n, what));
                check("classOf", real.classOf(n, what), model.classOf(n, what));
                check("certificateOf", real.certificateOf(n, what), model.certificateOf(n, what));
                check("grantOf", real.grantOf(n, what), model.grantOf(n, what));
                check("holderOf", real.holderOf(n, what), model.holderOf(n, what));
            }
        }
    }

    static void run(int number) {
        model = new Model();
        real = new CapStacks();
        log = new StringBuilder("run " + number + "\n");
        style = number % 3;
        int least = random.nextInt(8);
        for (int i = 0; i < 60 && wrong == 0; i++) {
            int r = random.nextInt(20);
            if (i < least || r < 11) change();
            else if (r < 15) ask();
            else if (r == 15) undo();
            else if (r == 16) typeOne(random.nextBoolean() ? pick(32, 126) : ';');
            else if (r < 19) typeText();
            else play();
        }
        askAll();
    }

    public static void main(String[] args) {
        int runs = args.length > 0 ? Integer.parseInt(args[0]) : 3000;
        for (int i = 0; i < runs && wrong == 0; i++) {
            run(i);
        }
        System.out.println(wrong == 0 ? calls + " answers are as the model's" : "the class and the model differ");
        if (wrong != 0) {
            System.exit(1);
        }
    }
}
