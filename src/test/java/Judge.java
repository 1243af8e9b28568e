import java.util.ArrayList;
import java.util.HashSet;
import java.util.List;
import java.util.Map;
import java.util.Set;
import java.util.TreeMap;

/**
 * Says of 512 words what load says of them, in its own way: it gathers every
 * use by its name and every place that leads there, and looks at them after.
 */
final class Judge {
    private final int[] words;
    private final Map<Integer, Set<String>> uses = new TreeMap<>();
    // For a cluster the tables that lead to it, or the one place that does.
    private final Map<Integer, Set<String>> leaders = new TreeMap<>();
    private final Set<Integer> flagged = new HashSet<>();
    private boolean badLead;

    private Judge(int[] words) {
        this.words = words;
    }

    static int firstWrong(int[] words) {
        if (words[0] != 7001 || words[1] != 1 || words[2] < 1 || words[2] > 64
            || words[5] < 0 || words[5] > 4 || words[7] != 0
            || words[5] == 0 && words[6] != 0 || words[5] != 0 && words[6] == 0) {
            return 1;
        }
        return new Judge(words).firstWrongBehindHeader();
    }

    private int firstWrongBehindHeader() {
        gather();
        if (badLead) {
            return 2;
        }
        for (Set<String> use : uses.values()) {
            if (use.size() > 1) {
                return 2;
            }
        }
        if (!listIsRight()) {
            return 3;
        }
        for (int c = 0; c < 64; c++) {
            int keeper = words[8 * words[4] + c / 8];
            if ((keeper == 0 ? 0 : words[8 * keeper + c % 8]) != due(c)) {
                return 4;
            }
        }
        for (int c : flagged) {
            for (int j = 0; j < 8; j++) {
                int word = words[8 * c + j];
                if (word >= 4 && word % 4 != (due(word / 4) == 1 ? 1 : 0)) {
                    return 5;
                }
            }
        }
        for (int p = 8; p < 512; p++) {
            if (words[p] != 0 && !uses.containsKey(p / 8)) {
                return 6;
            }
        }
        return 0;
    }

    private int due(int cluster) {
        return cluster == 0 ? 1 : leaders.getOrDefault(cluster, Set.of()).size();
    }

    private boolean lead(int cluster, String use, String leader) {
        if (cluster < 1 || cluster > 63) {
            badLead = true;
            return false;
        }
        uses.computeIfAbsent(cluster, c -> new HashSet<>()).add(use);
        leaders.computeIfAbsent(cluster, c -> new HashSet<>()).add(leader);
        return true;
    }

    private void gather() {
        List<Integer> tables = new ArrayList<>();
        if (lead(words[3], "active table", "header")) {
            tables.add(words[3]);
        }
        if (lead(words[4], "count table", "header")) {
            for (int k = 0; k < 8; k++) {
                int keeper = words[8 * words[4] + k];
                if (keeper != 0) {
                    lead(keeper, "counts of " + k, "count table");
                }
            }
        }
        if (words[5] > 0 && lead(words[6], "list", "header")) {
            for (int j = 0; j < words[5]; j++) {
                int table = words[8 * words[6] + 2 * j];
                if (lead(table, "table of " + j, "list")) {
                    tables.add(table);
                }
            }
        }
        for (int n = 0; n < tables.size(); n++) {
            gatherTable(tables.get(n), "table " + n);
        }
    }

    private void gatherTable(int table, String name) {
        flagged.add(table);
        for (int i = 0; i < 8; i++) {
            int word = words[8 * table + i];
            if (word == 0) {
                continue;
            }
            if (8 * i >= words[2] || Math.floorMod(word, 4) > 1) {
                badLead = true;
            } else if (lead(Math.floorDiv(word, 4), "leaf " + i, name)) {
                gatherLeaf(word / 4, i, name);
            }
        }
    }

    private void gatherLeaf(int leaf, int i, String name) {
        flagged.add(leaf);
        for (int j = 0; j < 8; j++) {
            int word = words[8 * leaf + j];
            if (word == 0) {
                continue;
            }
            if (8 * i + j >= words[2] || word != 2 && Math.floorMod(word, 4) > 1) {
                badLead = true;
            } else if (word != 2) {
                lead(Math.floorDiv(word, 4), "block " + (8 * i + j), name);
            }
        }
    }

    private boolean listIsRight() {
        if (words[5] == 0) {
            return true;
        }
        Set<Integer> names = new HashSet<>();
        for (int p = 0; p < 8; p++) {
            int word = words[8 * words[6] + p];
            if (p >= 2 * words[5] && word != 0 || p < 2 * words[5] && p % 2 == 1 && !names.add(word)) {
                return false;
            }
        }
        return true;
    }
}
