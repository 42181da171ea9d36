/** The shares of a company and who gets what at an exit; README.md tells how to use it. */
public final class CapStacks {
    public static final int INVALID_ARGUMENT = -1;
    public static final int NOT_POSSIBLE = -2;
    public static final int LIMIT_REACHED = -3;
    public static final int NOT_FOUND = -4;

    private static final int MOST_CLASSES = 5;
    private static final int MOST_HOLDERS = 8;
    private static final int MOST_CERTIFICATES = 24;
    private static final int MOST_GRANTS = 8;
    private static final int MOST_SHARES = 9999;
    private static final int MOST_PRICE = 99;
    private static final int MOST_MULTIPLE = 3;
    private static final int HIGHEST_RANK = 9;
    private static final int MOST_RATIO = 4;
    private static final int MOST_TERM = 60;
    private static final int MOST_MONTHS = 99;
    private static final int MOST_TIME = 999;
    private static final int MOST_PROCEEDS = 9999999;
    private static final int MOST_STATES = 4;
    private static final int MOST_LETTERS = 80;
    private static final int MOST_DIGITS = 4;
    private static final int MOST_NUMBERS = 5;

    private static final int PLAIN = 0;
    private static final int CAPPED = 2;

    /** Months after leaving in which vested shares can still be taken. */
    private static final int MONTHS_OF_GRACE = 3;

    /** Stands for a month, a number or a place that there is not. */
    private static final int NONE = -1;

    private static final int MALFORMED = 1;
    private static final int REFUSED = 2;

    private static final int ISSUE = 0;
    private static final int SPLIT = 1;
    private static final int BACK = 2;
    private static final int GRANT = 3;
    private static final int TAKE = 4;
    private static final int LEAVE = 5;
    private static final int PASS = 6;

    /** How many numbers each command has, by its verb. */
    private static final int[] NUMBERS_OF = {3, 3, 2, 5, 2, 1, 1};

    private final Company company;
    private final Company draft;
    private final History history;
    private final Exit exit;
    private final Text text;
    private final Rehearsal rehearsal;

    public CapStacks() {
        company = new Company();
        draft = new Company();
        history = new History();
        exit = new Exit();
        text = new Text();
        rehearsal = new Rehearsal();
    }

    // ---- classes, certificates

    public int shareClass(int price, int multiple, int rank, int kind, int ratio) {
        return accepted(newDraft().addClass(price, multiple, rank, kind, ratio));
    }

    public int holder() {
        return accepted(newDraft().addHolder());
    }

    public int issue(int holder, int of, int shares) {
        return accepted(newDraft().issueShares(holder, of, shares));
    }

    public int split(int certificate, int holder, int shares) {
        return accepted(newDraft().splitCertificate(certificate, holder, shares));
    }

    public int buyBack(int certificate, int shares) {
        return accepted(newDraft().buySharesBack(certificate, shares));
    }

    // ---- grants

    public int grant(int holder, int shares, int strike, int cliff, int term) {
        return accepted(newDraft().addGrant(holder, shares, strike, cliff, term));
    }

    public int take(int grant, int shares) {
        return accepted(newDraft().takeOptions(grant, shares));
    }

    public int leave(int holder) {
        return accepted(newDraft().letLeave(holder));
    }

    public int pass(int months) {
        return accepted(newDraft().passMonths(months));
    }

    // ---- rounds

    public int round(int of, int shares, int leader) {
        return accepted(newDraft().beginRound(of, shares, leader));
    }

    public int takeUp(int holder, int shares) {
        return accepted(newDraft().takeUpShares(holder, shares));
    }

    public int close() {
        return accepted(newDraft().closeRound());
    }

    public int roundOf(int holder, int what) {
        return company.aboutRound(holder, what);
    }

    // ---- what there is

    public int classOf(int of, int what) {
        return company.aboutClass(of, what);
    }

    public int certificateOf(int certificate, int what) {
        return company.aboutCertificate(certificate, what);
    }

    public int grantOf(int grant, int what) {
        return company.aboutGrant(grant, what);
    }

    public int holderOf(int holder, int what) {
        return company.aboutHolder(holder, what);
    }

    public int count(int what) {
        if (what == 11) {
            return history.size;
        }
        if (what == 12) {
            return text.length;
        }
        return company.aboutAll(what);
    }

    // ---- exits

    public int converts(int proceeds) {
        if (!within(proceeds, 0, MOST_PROCEEDS)) {
            return INVALID_ARGUMENT;
        }
        exit.reckon(company, proceeds);
        return exit.converting;
    }

    public int classGets(int proceeds, int of) {
        if (!within(proceeds, 0, MOST_PROCEEDS) || !company.hasClass(of)) {
            return INVALID_ARGUMENT;
        }
        exit.reckon(company, proceeds);
        return exit.gain[of];
    }

    public int holderGets(int proceeds, int holder) {
        if (!within(proceeds, 0, MOST_PROCEEDS) || !company.hasHolder(holder)) {
            return INVALID_ARGUMENT;
        }
        exit.reckon(company, proceeds);
        return exit.gainOfHolder(company, holder);
    }

    public int byGain(int proceeds, int place) {
        if (!within(proceeds, 0, MOST_PROCEEDS) || place < 0) {
            return INVALID_ARGUMENT;
        }
        if (place >= company.classes.size) {
            return NOT_FOUND;
        }
        exit.reckon(company, proceeds);
        return exit.classAt(place);
    }

    public int undo() {
        if (history.size == 0) {
            return NOT_POSSIBLE;
        }
        history.restore(company);
        return history.size;
    }

    // ---- texts

    public int type(int character) {
        return text.append(character);
    }

    public int clearText() {
        int had = text.length;
        text.length = 0;
        return had;
    }

    public int fault(int what) {
        if (!within(what, 0, 2)) {
            return INVALID_ARGUMENT;
        }
        rehearsal.run(text, newDraft());
        return rehearsal.about(what);
    }

    public int play() {
        rehearsal.run(text, newDraft());
        return accepted(rehearsal.failed() ? NOT_POSSIBLE : rehearsal.done);
    }

    /** Changes are tried on a copy, so that a call that fails halfway leaves nothing behind. */
    private Company newDraft() {
        draft.copyFrom(company);
        return draft;
    }

    private int accepted(int answer) {
        if (answer >= 0) {
            history.keep(company);
            company.copyFrom(draft);
        }
        return answer;
    }

    private static boolean within(int value, int least, int most) {
        return value >= least && value <= most;
    }

    private static boolean contains(int set, int member) {
        return (set >> member & 1) == 1;
    }

    /** What is divided by a sum of nothing is nothing, as the document wants it for rights. */
    private static int portion(int amount, int part, int whole) {
        if (whole <= 0) {
            return 0;
        }
        return (int) ((long) amount * part / whole);
    }

    private static void copyRow(int[] from, int[] to) {
        System.arraycopy(from, 0, to, 0, Math.min(from.length, to.length));
    }

    /** The terms of the classes; those of class 0 are such that it has no preference. */
    private static final class Classes {
        int size = 1;
        final int[] price = new int[MOST_CLASSES];
        final int[] multiple = new int[MOST_CLASSES];
        final int[] rank = new int[MOST_CLASSES];
        final int[] kind = new int[MOST_CLASSES];
        final int[] ratio = new int[MOST_CLASSES];

        Classes() {
            ratio[0] = 1;
        }

        void copyFrom(Classes other) {
            size = other.size;
            copyRow(other.price, price);
            copyRow(other.multiple, multiple);
            copyRow(other.rank, rank);
            copyRow(other.kind, kind);
            copyRow(other.ratio, ratio);
        }

        int preference(int of, int shares) {
            return shares * price[of] * multiple[of];
        }

        int common(int of, int shares) {
            return shares * ratio[of];
        }
    }

    /** The certificates; a number without shares is free. */
    private static final class Certificates {
        final int[] holder = new int[MOST_CERTIFICATES];
        final int[] of = new int[MOST_CERTIFICATES];
        final int[] shares = new int[MOST_CERTIFICATES];
        final int[] made = new int[MOST_CERTIFICATES];

        void copyFrom(Certificates other) {
            copyRow(other.holder, holder);
            copyRow(other.of, of);
            copyRow(other.shares, shares);
            copyRow(other.made, made);
        }

        boolean has(int certificate) {
            return within(certificate, 0, MOST_CERTIFICATES - 1) && shares[certificate] > 0;
        }

        int size() {
            int found = 0;
            for (int c = 0; c < MOST_CERTIFICATES; c++) {
                if (shares[c] > 0) {
                    found++;
                }
            }
            return found;
        }

        int sizeOf(int owner) {
            int found = 0;
            for (int c = 0; c < MOST_CERTIFICATES; c++) {
                if (shares[c] > 0 && holder[c] == owner) {
                    found++;
                }
            }
            return found;
        }

        int add(int owner, int ofClass, int number, int time) {
            for (int c = 0; c < MOST_CERTIFICATES; c++) {
                if (shares[c] == 0) {
                    holder[c] = owner;
                    of[c] = ofClass;
                    shares[c] = number;
                    made[c] = time;
                    return c;
                }
            }
            return LIMIT_REACHED;
        }

        int sharesIn(int ofClass) {
            int sum = 0;
            for (int c = 0; c < MOST_CERTIFICATES; c++) {
                if (of[c] == ofClass) {
                    sum += shares[c];
                }
            }
            return sum;
        }

        int sharesOwned(int owner, int ofClass) {
            int sum = 0;
            for (int c = 0; c < MOST_CERTIFICATES; c++) {
                if (of[c] == ofClass && holder[c] == owner) {
                    sum += shares[c];
                }
            }
            return sum;
        }
    }

    /** The grants and what was taken of them. */
    private static final class Grants {
        int size;
        final int[] holder = new int[MOST_GRANTS];
        final int[] shares = new int[MOST_GRANTS];
        final int[] strike = new int[MOST_GRANTS];
        final int[] cliff = new int[MOST_GRANTS];
        final int[] term = new int[MOST_GRANTS];
        final int[] made = new int[MOST_GRANTS];
        final int[] taken = new int[MOST_GRANTS];

        void copyFrom(Grants other) {
            size = other.size;
            copyRow(other.holder, holder);
            copyRow(other.shares, shares);
            copyRow(other.strike, strike);
            copyRow(other.cliff, cliff);
            copyRow(other.term, term);
            copyRow(other.made, made);
            copyRow(other.taken, taken);
        }
    }

    /** The round that is on, if one is. */
    private static final class Round {
        boolean on;
        int of;
        int shares;
        int leader;
        final int[] right = new int[MOST_HOLDERS];
        final int[] takenUp = new int[MOST_HOLDERS];

        void copyFrom(Round other) {
            on = other.on;
            of = other.of;
            shares = other.shares;
            leader = other.leader;
            copyRow(other.right, right);
            copyRow(other.takenUp, takenUp);
        }

        void begin(int ofClass, int number, int holder) {
            on = true;
            of = ofClass;
            shares = number;
            leader = holder;
            for (int h = 0; h < MOST_HOLDERS; h++) {
                right[h] = 0;
                takenUp[h] = 0;
            }
        }

        int notTakenUp() {
            int rest = shares;
            for (int h = 0; h < MOST_HOLDERS; h++) {
                rest -= takenUp[h];
            }
            return rest;
        }

        int certificatesToMake() {
            int number = notTakenUp() > 0 ? 1 : 0;
            for (int h = 0; h < MOST_HOLDERS; h++) {
                if (takenUp[h] > 0) {
                    number++;
                }
            }
            return number;
        }
    }

    /** All that a change can change; what the history keeps. */
    private static final class Company {
        final Classes classes = new Classes();
        final Certificates certificates = new Certificates();
        final Grants grants = new Grants();
        final Round round = new Round();
        int holders;
        final int[] leftAt = new int[MOST_HOLDERS];
        int time;
        int sharesIssued;
        int sharesBought;
        int optionMoney;
        int roundMoney;

        void copyFrom(Company other) {
            classes.copyFrom(other.classes);
            certificates.copyFrom(other.certificates);
            grants.copyFrom(other.grants);
            round.copyFrom(other.round);
            holders = other.holders;
            copyRow(other.leftAt, leftAt);
            time = other.time;
            sharesIssued = other.sharesIssued;
            sharesBought = other.sharesBought;
            optionMoney = other.optionMoney;
            roundMoney = other.roundMoney;
        }

        boolean hasClass(int of) {
            return within(of, 0, classes.size - 1);
        }

        boolean hasHolder(int holder) {
            return within(holder, 0, holders - 1);
        }

        boolean hasGrant(int grant) {
            return within(grant, 0, grants.size - 1);
        }

        int addClass(int price, int multiple, int rank, int kind, int ratio) {
            if (!within(price, 1, MOST_PRICE) || !within(multiple, 1, MOST_MULTIPLE)
                    || !within(rank, 0, HIGHEST_RANK) || !within(kind, PLAIN, CAPPED)
                    || !within(ratio, 1, MOST_RATIO)) {
                return INVALID_ARGUMENT;
            }
            int added = classes.size;
            if (added >= MOST_CLASSES) {
                return LIMIT_REACHED;
            }
            classes.price[added] = price;
            classes.multiple[added] = multiple;
            classes.rank[added] = rank;
            classes.kind[added] = kind;
            classes.ratio[added] = ratio;
            classes.size = added + 1;
            return added;
        }

        int addHolder() {
            int added = holders;
            if (added >= MOST_HOLDERS) {
                return LIMIT_REACHED;
            }
            leftAt[added] = NONE;
            holders = added + 1;
            return added;
        }

        int issueShares(int holder, int of, int shares) {
            if (!hasHolder(holder) || !hasClass(of) || !within(shares, 1, MOST_SHARES)) {
                return INVALID_ARGUMENT;
            }
            if (round.on) {
                return NOT_POSSIBLE;
            }
            if (certificates.size() >= MOST_CERTIFICATES) {
                return LIMIT_REACHED;
            }
            sharesIssued += shares;
            return certificates.add(holder, of, shares, time);
        }

        int splitCertificate(int certificate, int holder, int shares) {
            if (!certificates.has(certificate) || !hasHolder(holder)
                    || certificates.holder[certificate] == holder
                    || !within(shares, 1, certificates.shares[certificate])) {
                return INVALID_ARGUMENT;
            }
            if (round.on) {
                return NOT_POSSIBLE;
            }
            boolean whole = certificates.shares[certificate] == shares;
            if (!whole && certificates.size() >= MOST_CERTIFICATES) {
                return LIMIT_REACHED;
            }
            certificates.shares[certificate] -= shares;
            return certificates.add(holder, certificates.of[certificate], shares, time);
        }

        int buySharesBack(int certificate, int shares) {
            if (!certificates.has(certificate)
                    || !within(shares, 1, certificates.shares[certificate])) {
                return INVALID_ARGUMENT;
            }
            if (round.on) {
                return NOT_POSSIBLE;
            }
            sharesBought += shares;
            certificates.shares[certificate] -= shares;
            return certificates.shares[certificate];
        }

        int addGrant(int holder, int shares, int strike, int cliff, int term) {
            if (!hasHolder(holder) || !within(shares, 1, MOST_SHARES)
                    || !within(strike, 0, MOST_PRICE) || !within(term, 1, MOST_TERM)
                    || !within(cliff, 0, term)) {
                return INVALID_ARGUMENT;
            }
            if (leftAt[holder] != NONE) {
                return NOT_POSSIBLE;
            }
            int added = grants.size;
            if (added >= MOST_GRANTS) {
                return LIMIT_REACHED;
            }
            grants.holder[added] = holder;
            grants.shares[added] = shares;
            grants.strike[added] = strike;
            grants.cliff[added] = cliff;
            grants.term[added] = term;
            grants.made[added] = time;
            grants.taken[added] = 0;
            grants.size = added + 1;
            return added;
        }

        int takeOptions(int grant, int shares) {
            if (!hasGrant(grant) || !within(shares, 1, MOST_SHARES)) {
                return INVALID_ARGUMENT;
            }
            if (round.on || takeable(grant) < shares) {
                return NOT_POSSIBLE;
            }
            if (certificates.size() >= MOST_CERTIFICATES) {
                return LIMIT_REACHED;
            }
            int cost = shares * grants.strike[grant];
            grants.taken[grant] += shares;
            optionMoney += cost;
            sharesIssued += shares;
            certificates.add(grants.holder[grant], 0, shares, time);
            return cost;
        }

        int letLeave(int holder) {
            if (!hasHolder(holder)) {
                return INVALID_ARGUMENT;
            }
            if (leftAt[holder] != NONE) {
                return NOT_POSSIBLE;
            }
            leftAt[holder] = time;
            return takeableOf(holder);
        }

        int passMonths(int months) {
            if (!within(months, 1, MOST_MONTHS)) {
                return INVALID_ARGUMENT;
            }
            if (time + months > MOST_TIME) {
                return LIMIT_REACHED;
            }
            time += months;
            return time;
        }

        int beginRound(int of, int shares, int leader) {
            if (of == 0 || !hasClass(of) || !within(shares, 1, MOST_SHARES) || !hasHolder(leader)) {
                return INVALID_ARGUMENT;
            }
            if (round.on) {
                return NOT_POSSIBLE;
            }
            round.begin(of, shares, leader);
            int all = commonOfAll();
            for (int h = 0; h < holders; h++) {
                round.right[h] = portion(shares, commonOf(h), all);
            }
            return shares * classes.price[of];
        }

        int takeUpShares(int holder, int shares) {
            if (!hasHolder(holder) || !within(shares, 1, MOST_SHARES)) {
                return INVALID_ARGUMENT;
            }
            if (!round.on || round.right[holder] < round.takenUp[holder] + shares) {
                return NOT_POSSIBLE;
            }
            round.takenUp[holder] += shares;
            return round.right[holder] - round.takenUp[holder];
        }

        int closeRound() {
            if (!round.on) {
                return NOT_POSSIBLE;
            }
            int made = round.certificatesToMake();
            if (certificates.size() + made > MOST_CERTIFICATES) {
                return LIMIT_REACHED;
            }
            for (int h = 0; h < holders; h++) {
                if (round.takenUp[h] > 0) {
                    certificates.add(h, round.of, round.takenUp[h], time);
                }
            }
            int rest = round.notTakenUp();
            if (rest > 0) {
                certificates.add(round.leader, round.of, rest, time);
            }
            sharesIssued += round.shares;
            roundMoney += round.shares * classes.price[round.of];
            round.on = false;
            return made;
        }

        int aboutRound(int holder, int what) {
            if (!hasHolder(holder) || !within(what, 0, 4)) {
                return INVALID_ARGUMENT;
            }
            if (!round.on) {
                return NOT_FOUND;
            }
            switch (what) {
                case 0: return round.right[holder];
                case 1: return round.takenUp[holder];
                case 2: return round.of;
                case 3: return round.shares;
                default: return round.leader;
            }
        }

        int aboutClass(int of, int what) {
            if (!hasClass(of) || !within(what, 0, 7)) {
                return INVALID_ARGUMENT;
            }
            if (of == 0 && what >= 3) {
                return NOT_FOUND;
            }
            switch (what) {
                case 0: return certificates.sharesIn(of);
                case 1: return classes.preference(of, certificates.sharesIn(of));
                case 2: return classes.common(of, certificates.sharesIn(of));
                case 3: return classes.price[of];
                case 4: return classes.multiple[of];
                case 5: return classes.rank[of];
                case 6: return classes.kind[of];
                default: return classes.ratio[of];
            }
        }

        int aboutCertificate(int certificate, int what) {
            if (!certificates.has(certificate) || !within(what, 0, 3)) {
                return INVALID_ARGUMENT;
            }
            switch (what) {
                case 0: return certificates.holder[certificate];
                case 1: return certificates.of[certificate];
                case 2: return certificates.shares[certificate];
                default: return certificates.made[certificate];
            }
        }

        int aboutGrant(int grant, int what) {
            if (!hasGrant(grant) || !within(what, 0, 6)) {
                return INVALID_ARGUMENT;
            }
            switch (what) {
                case 0: return grants.holder[grant];
                case 1: return grants.shares[grant];
                case 2: return grants.strike[grant];
                case 3: return vested(grant);
                case 4: return grants.taken[grant];
                case 5: return takeable(grant);
                default: return grants.made[grant];
            }
        }

        int aboutHolder(int holder, int what) {
            if (!hasHolder(holder) || !within(what, 0, 9)) {
                return INVALID_ARGUMENT;
            }
            switch (what) {
                case 5: return commonOf(holder);
                case 6: return leftAt[holder] == NONE ? NOT_FOUND : leftAt[holder];
                case 7: return certificates.sizeOf(holder);
                case 8: return takeableOf(holder);
                case 9: return thousandths(holder);
                default: return certificates.sharesOwned(holder, what);
            }
        }

        int aboutAll(int what) {
            switch (what) {
                case 0: return classes.size;
                case 1: return holders;
                case 2: return certificates.size();
                case 3: return grants.size;
                case 4: return time;
                case 5: return commonOfAll();
                case 6: return round.on ? 1 : 0;
                case 7: return sharesIssued;
                case 8: return sharesBought;
                case 9: return optionMoney;
                case 10: return roundMoney;
                default: return INVALID_ARGUMENT;
            }
        }

        int commonOf(int holder) {
            int sum = 0;
            for (int k = 0; k < classes.size; k++) {
                sum += classes.common(k, certificates.sharesOwned(holder, k));
            }
            return sum;
        }

        int commonOfAll() {
            int sum = 0;
            for (int k = 0; k < classes.size; k++) {
                sum += classes.common(k, certificates.sharesIn(k));
            }
            return sum;
        }

        int thousandths(int holder) {
            int all = commonOfAll();
            return all == 0 ? NOT_FOUND : portion(1000, commonOf(holder), all);
        }

        int vested(int grant) {
            int left = leftAt[grants.holder[grant]];
            int months = (left == NONE ? time : left) - grants.made[grant];
            int term = grants.term[grant];
            if (months < grants.cliff[grant]) {
                return 0;
            }
            if (term <= 0 || months >= term) {
                return grants.shares[grant];
            }
            return grants.shares[grant] * months / term;
        }

        int takeable(int grant) {
            int left = leftAt[grants.holder[grant]];
            if (left != NONE && time - left > MONTHS_OF_GRACE) {
                return 0;
            }
            return vested(grant) - grants.taken[grant];
        }

        int takeableOf(int holder) {
            int sum = 0;
            for (int g = 0; g < grants.size; g++) {
                if (grants.holder[g] == holder) {
                    sum += takeable(g);
                }
            }
            return sum;
        }
    }

    /** The states before the latest changes, the oldest one first. */
    private static final class History {
        int size;
        private final Company[] states = new Company[MOST_STATES];

        History() {
            for (int s = 0; s < MOST_STATES; s++) {
                states[s] = new Company();
            }
        }

        void keep(Company company) {
            if (size >= MOST_STATES) {
                dropOldest();
            }
            states[size].copyFrom(company);
            size++;
        }

        void restore(Company company) {
            if (size > 0) {
                size--;
                company.copyFrom(states[size]);
            }
        }

        /** The oldest one's rows go to the end, to be written anew. */
        private void dropOldest() {
            Company oldest = states[0];
            for (int s = 1; s < MOST_STATES; s++) {
                states[s - 1] = states[s];
            }
            states[MOST_STATES - 1] = oldest;
            size = MOST_STATES - 1;
        }
    }

    /** Reckons an exit: which classes convert, and what each class gets then. */
    private static final class Exit {
        int converting;
        final int[] gain = new int[MOST_CLASSES];
        private int size;
        private final int[] shares = new int[MOST_CLASSES];
        private final int[] preference = new int[MOST_CLASSES];
        private final int[] common = new int[MOST_CLASSES];
        private final int[] rank = new int[MOST_CLASSES];
        private final int[] kind = new int[MOST_CLASSES];

        void reckon(Company company, int proceeds) {
            readClasses(company);
            converting = 0;
            for (int turn = 1; turn < size; turn++) {
                int next = nextToConvert(proceeds);
                if (next == NONE) {
                    break;
                }
                converting |= 1 << next;
            }
            payOut(proceeds, converting);
        }

        int gainOfHolder(Company company, int holder) {
            int sum = 0;
            for (int k = 0; k < size; k++) {
                sum += portion(gain[k], company.certificates.sharesOwned(holder, k), shares[k]);
            }
            return sum;
        }

        /** The class that has exactly so many classes ahead of it. */
        int classAt(int place) {
            for (int k = 0; k < size; k++) {
                if (classesAhead(k) == place) {
                    return k;
                }
            }
            return NOT_FOUND;
        }

        private int classesAhead(int of) {
            int ahead = 0;
            for (int k = 0; k < size; k++) {
                if (gain[k] > gain[of] || gain[k] == gain[of] && k < of) {
                    ahead++;
                }
            }
            return ahead;
        }

        private void readClasses(Company company) {
            size = company.classes.size;
            for (int k = 0; k < size; k++) {
                shares[k] = company.certificates.sharesIn(k);
                preference[k] = company.classes.preference(k, shares[k]);
                common[k] = company.classes.common(k, shares[k]);
                rank[k] = company.classes.rank[k];
                kind[k] = company.classes.kind[k];
            }
        }

        private int nextToConvert(int proceeds) {
            for (int k = 1; k < size; k++) {
                if (shares[k] > 0 && !contains(converting, k)) {
                    payOut(proceeds, converting);
                    int kept = gain[k];
                    payOut(proceeds, converting | 1 << k);
                    if (gain[k] > kept) {
                        return k;
                    }
                }
            }
            return NONE;
        }

        private void payOut(int proceeds, int set) {
            for (int k = 0; k < size; k++) {
                gain[k] = 0;
            }
            int left = proceeds;
            for (int r = HIGHEST_RANK; r >= 0; r--) {
                int claims = claimsOf(r, set);
                payClaims(r, set, Math.min(left, claims), claims);
                if (left < claims) {
                    return;
                }
                left -= claims;
            }
            shareOut(left, set);
        }

        private boolean claims(int of, int atRank, int set) {
            return of != 0 && rank[of] == atRank && shares[of] > 0 && !contains(set, of);
        }

        private int claimsOf(int atRank, int set) {
            int sum = 0;
            for (int k = 1; k < size; k++) {
                if (claims(k, atRank, set)) {
                    sum += preference[k];
                }
            }
            return sum;
        }

        private void payClaims(int atRank, int set, int paid, int sum) {
            for (int k = 1; k < size; k++) {
                if (claims(k, atRank, set)) {
                    gain[k] = portion(paid, preference[k], sum);
                }
            }
        }

        /** Each turn but the last takes out a class that would have more than it may. */
        private void shareOut(int rest, int set) {
            int left = rest;
            int sharing = sharers(set);
            for (int turn = 0; turn <= size; turn++) {
                int sum = commonOf(sharing);
                int full = lowestOverCap(left, sum, sharing & ~set);
                if (full == NONE) {
                    addShares(left, sum, sharing);
                    return;
                }
                gain[full] += preference[full];
                left -= preference[full];
                sharing &= ~(1 << full);
            }
        }

        private int sharers(int set) {
            int sharing = 0;
            for (int k = 0; k < size; k++) {
                if (k == 0 || contains(set, k) || kind[k] != PLAIN) {
                    sharing |= 1 << k;
                }
            }
            return sharing;
        }

        private int commonOf(int sharing) {
            int sum = 0;
            for (int k = 0; k < size; k++) {
                if (contains(sharing, k)) {
                    sum += common[k];
                }
            }
            return sum;
        }

        private int lowestOverCap(int left, int sum, int participating) {
            for (int k = 1; k < size; k++) {
                if (contains(participating, k) && kind[k] == CAPPED
                        && portion(left, common[k], sum) > preference[k]) {
                    return k;
                }
            }
            return NONE;
        }

        private void addShares(int left, int sum, int sharing) {
            for (int k = 0; k < size; k++) {
                if (contains(sharing, k)) {
                    gain[k] += portion(left, common[k], sum);
                }
            }
        }
    }

    /** What was typed, and the command that was read from it last. */
    private static final class Text {
        int length;
        int verb;
        final int[] numbers = new int[MOST_NUMBERS];
        private final char[] letters = new char[MOST_LETTERS];

        int append(int character) {
            if (!within(character, 32, 126)) {
                return INVALID_ARGUMENT;
            }
            if (length >= MOST_LETTERS) {
                return LIMIT_REACHED;
            }
            letters[length] = (char) character;
            length++;
            return length;
        }

        /** Returns the place behind the command that begins at the place, or NONE. */
        int readCommand(int place) {
            for (int v = ISSUE; v <= PASS; v++) {
                int behind = behindWord(place, wordOf(v));
                if (behind != NONE) {
                    verb = v;
                    return readNumbers(behind, NUMBERS_OF[v]);
                }
            }
            return NONE;
        }

        private int behindWord(int place, String word) {
            for (int i = 0; i < word.length(); i++) {
                if (!stands(place + i, word.charAt(i))) {
                    return NONE;
                }
            }
            return place + word.length();
        }

        private int readNumbers(int place, int howMany) {
            int at = place;
            for (int n = 0; n < howMany; n++) {
                if (!stands(at, ' ')) {
                    return NONE;
                }
                int digits = digitsAt(at + 1);
                if (!within(digits, 1, MOST_DIGITS)) {
                    return NONE;
                }
                numbers[n] = numberAt(at + 1, digits);
                at += 1 + digits;
            }
            return stands(at, ';') ? at + 1 : NONE;
        }

        private int digitsAt(int place) {
            int digits = 0;
            for (int i = place; i < length; i++) {
                if (!within(letters[i], '0', '9')) {
                    break;
                }
                digits++;
            }
            return digits;
        }

        private int numberAt(int place, int digits) {
            int number = 0;
            for (int i = place; i < place + digits; i++) {
                number = number * 10 + (letters[i] - '0');
            }
            return number;
        }

        private boolean stands(int place, char letter) {
            return within(place, 0, length - 1) && letters[place] == letter;
        }

        private static String wordOf(int verb) {
            switch (verb) {
                case ISSUE: return "issue";
                case SPLIT: return "split";
                case BACK: return "back";
                case GRANT: return "grant";
                case TAKE: return "take";
                case LEAVE: return "leave";
                default: return "pass";
            }
        }
    }

    /** Does the commands of a text on a draft, as far as they are possible. */
    private static final class Rehearsal {
        int done;
        private int position;
        private int reason;
        private int cause;

        void run(Text text, Company company) {
            done = 0;
            position = 0;
            reason = 0;
            cause = 0;
            for (int turn = 0; turn < MOST_LETTERS && position < text.length; turn++) {
                int behind = text.readCommand(position);
                if (behind == NONE) {
                    reason = MALFORMED;
                    return;
                }
                int answer = perform(text.verb, text.numbers, company);
                if (answer < 0) {
                    reason = REFUSED;
                    cause = answer;
                    return;
                }
                done++;
                position = behind;
            }
        }

        boolean failed() {
            return reason != 0;
        }

        int about(int what) {
            if (!failed() || what == 2 && reason == MALFORMED) {
                return NOT_FOUND;
            }
            switch (what) {
                case 0: return position;
                case 1: return reason;
                default: return cause;
            }
        }

        private static int perform(int verb, int[] n, Company company) {
            if (n.length < MOST_NUMBERS) {
                return INVALID_ARGUMENT;
            }
            switch (verb) {
                case ISSUE: return company.issueShares(n[0], n[1], n[2]);
                case SPLIT: return company.splitCertificate(n[0], n[1], n[2]);
                case BACK: return company.buySharesBack(n[0], n[1]);
                case GRANT: return company.addGrant(n[0], n[1], n[2], n[3], n[4]);
                case TAKE: return company.takeOptions(n[0], n[1]);
                case LEAVE: return company.letLeave(n[0]);
                default: return company.passMonths(n[0]);
            }
        }
    }
}
